/-! Many blocks taken, many given back. -/
theorem aTakeN_spec {B i : Int} (hi : 0 ≤ i ∧ i < 64) : ∀ (m : Nat) (A A1 : aSt), aU B A → aTakeN B i m A = some A1 → aU B A1 ∧ aTot A1.1 i = aTot A.1 i + m ∧ (A1.1 (20 * i) = A.1 (20 * i) ∧ A1.1 (20 * i + 1) = A.1 (20 * i + 1)) ∧ aOff A.1 A1.1 i ∧ (∀ k, 0 ≤ k → k < aTot A.1 i → aBlk A1.1 i k = aBlk A.1 i k) ∧
    (∀ b, 0 < A.2.1 b → A1.2.1 b = A.2.1 b ∧ ∀ x, 0 ≤ x → x < 64 → A1.2.2 (64 * b + x) = A.2.2 (64 * b + x)) ∧ (∀ b, A1.2.1 b = A.2.1 b ∨ ((59 ≤ b ∧ b < B) ∧ A1.2.1 b = i + 1 ∧ aIn A1.1 i b ∧ ∀ x, 0 ≤ x → x < 64 → A1.2.2 (64 * b + x) = 0)) ∧ (∀ b, aIn A.1 i b → aIn A1.1 i b) ∧
    (∀ k, aTot A.1 i ≤ k → k < aTot A1.1 i → ∀ x, 0 ≤ x → x < 64 → A1.2.2 (64 * aBlk A1.1 i k + x) = 0) := by
  intro m
  induction m with
  | zero =>
    intro A A1 h ht
    have ht : some A = some A1 := ht
    have ht := Option.some.inj ht
    subst ht
    exact ⟨h, by omega, ⟨rfl, rfl⟩, fun _ _ => rfl, fun _ _ _ => rfl, fun _ _ => ⟨rfl, fun _ _ _ => rfl⟩, fun _ => Or.inl rfl, fun _ u => u, fun k k0 k1 => absurd k1 (by omega)⟩
  | succ m ih =>
    intro A A1 h ht
    unfold aTakeN at ht
    cases hA : aTake B A i with
    | none => rw [hA] at ht; cases ht
    | some A' =>
      rw [hA] at ht
      have ht : aTakeN B i m A' = some A1 := ht
      obtain ⟨-, s1, s2, s3, s4⟩ := aTake_N h.1 hi hA
      obtain ⟨b, b1, b2, b3, b4, b5, b6, b7⟩ := aTake_spec h hi hA
      obtain ⟨i1, i2, ⟨i3, i3'⟩, i4, i5, i6, i7, i8, i9⟩ := ih A' A1 b7 ht
      have nn : 0 ≤ aTot A.1 i := by
        refine gSum_nn _ _ (fun x x0 x1 => ?_)
        have c := (h.1 i hi.1 hi.2).2.2.1
        have := (h.1 i hi.1 hi.2).2.2.2 x x0 (by omega)
        omega
      have ob : A'.2.1 b = i + 1 := by rw [b2, bU_at]
      have zb : ∀ x, 0 ≤ x → x < 64 → A1.2.2 (64 * b + x) = 0 := fun x x0 x1 => by
        rw [(i6 b (by omega)).2 x x0 x1, b3]
        unfold bZ
        rw [if_pos (by omega)]
      refine ⟨i1, by omega, ⟨by rw [i3, s2], by rw [i3', s1]⟩, fun j hj => by rw [i4 j hj, s4 j hj], fun k k0 k1 => by rw [i5 k k0 (by omega), b5 k k0 k1], fun b' o => ?_, fun b' => ?_, fun b' u => i8 b' ((b4 b').mpr (Or.inl u)), fun k k0 k1 x x0 x1 => ?_⟩
      · have nb : b' ≠ b := fun u => b1.2.2 (by rw [← u]; exact o)
        have e : A'.2.1 b' = A.2.1 b' := by rw [b2, bU_ne nb]
        have q := i6 b' (by omega)
        refine ⟨by rw [q.1, e], fun x x0 x1 => ?_⟩
        rw [q.2 x x0 x1, b3]
        unfold bZ
        rw [if_neg (by omega)]
      · by_cases c : b' = b
        · rw [c]
          exact Or.inr ⟨⟨b1.1, b1.2.1⟩, by rw [(i6 b (by omega)).1, ob], i8 b ((b4 b).mpr (Or.inr rfl)), zb⟩
        · rcases i7 b' with u | u
          · exact Or.inl (by rw [u, b2, bU_ne c])
          · exact Or.inr u
      · by_cases c : k = aTot A.1 i
        · rw [c, i5 _ nn (by omega), b6]
          exact zb x x0 x1
        · exact i9 k (by omega) k1 x x0 x1
/-- what giving back a block does -/
theorem aGive_spec {B i : Int} {A : aSt} (h : aU B A) (hi : 0 ≤ i ∧ i < 64) (h0 : 0 < A.1 (20 * i + 2)) : ∃ b, aIn A.1 i b ∧ (aGive A i).2.1 = bU A.2.1 b 0 ∧ (aGive A i).2.2 = A.2.2 ∧ (∀ x, aIn (aGive A i).1 i x ↔ aIn A.1 i x ∧ x ≠ b) ∧ (∀ k, 0 ≤ k → k < aTot A.1 i - 1 → aBlk (aGive A i).1 i k = aBlk A.1 i k) ∧ aU B (aGive A i) := by
  obtain ⟨ga, -, -, -, go⟩ := aGive_N h.1 hi h0
  obtain ⟨ha, hO, hJ⟩ := h
  obtain ⟨N, O, W⟩ := A
  have hJ : aJ N := hJ
  have hA : aI B N i := ha i hi.1 hi.2
  have h0 : 0 < N (20 * i + 2) := h0
  have c8 := hA.2.2.1
  have hx := hA.2.2.2 (N (20 * i + 2) - 1) (by omega) (by omega)
  have hnn : ∀ x, 0 ≤ x → x < N (20 * i + 2) → 0 ≤ N (20 * i + 4 + 2 * x) := fun x x1 x2 => by have := hA.2.2.2 x x1 x2; omega
  obtain ⟨N', hN'⟩ : ∃ N', (aGive (N, O, W) i).1 = N' := ⟨_, rfl⟩
  have sp : (∀ x, 0 ≤ x → x < N (20 * i + 2) - 1 → N' (20 * i + 3 + 2 * x) = N (20 * i + 3 + 2 * x) ∧ N' (20 * i + 4 + 2 * x) = N (20 * i + 4 + 2 * x)) ∧ ((1 < N (20 * i + 4 + 2 * (N (20 * i + 2) - 1)) ∧ N' (20 * i + 2) = N (20 * i + 2) ∧ N' (20 * i + 3 + 2 * (N (20 * i + 2) - 1)) = N (20 * i + 3 + 2 * (N (20 * i + 2) - 1)) ∧ N' (20 * i + 4 + 2 * (N (20 * i + 2) - 1)) = N (20 * i + 4 + 2 * (N (20 * i + 2) - 1)) - 1) ∨ (N (20 * i + 4 + 2 * (N (20 * i + 2) - 1)) = 1 ∧ N' (20 * i + 2) = N (20 * i + 2) - 1)) := by
    rw [← hN']
    unfold aGive
    dsimp only
    by_cases c : 0 < N (20 * i + 4 + 2 * (N (20 * i + 2) - 1)) - 1
    · rw [if_pos c]
      exact ⟨fun x x0 x1 => ⟨bU_ne (by omega), bU_ne (by omega)⟩, Or.inl ⟨by omega, bU_ne (by omega), bU_ne (by omega), bU_at⟩⟩
    · rw [if_neg c]
      exact ⟨fun x x0 x1 => ⟨by rw [bU_ne (by omega), bU_ne (by omega), bU_ne (by omega)], by rw [bU_ne (by omega), bU_ne (by omega), bU_ne (by omega)]⟩, Or.inr ⟨by omega, bU_at⟩⟩
  rw [hN'] at ga go
  have own : ∀ x, aIn N i x → O x = i + 1 := fun x u => hO i x hi.1 hi.2 u
  obtain ⟨b, hb⟩ : ∃ b, N (20 * i + 3 + 2 * (N (20 * i + 2) - 1)) + (N (20 * i + 4 + 2 * (N (20 * i + 2) - 1)) - 1) = b := ⟨_, rfl⟩
  have inb : aIn N i b := ⟨N (20 * i + 2) - 1, by omega, by omega, by omega, by omega⟩
  have sub : ∀ e y, 0 ≤ e → e < N' (20 * i + 2) → N' (20 * i + 3 + 2 * e) ≤ y → y < N' (20 * i + 3 + 2 * e) + N' (20 * i + 4 + 2 * e) → e < N (20 * i + 2) ∧ N (20 * i + 3 + 2 * e) ≤ y ∧ y < N (20 * i + 3 + 2 * e) + N (20 * i + 4 + 2 * e) ∧ y ≠ b := by
    intro e y e0 e1 y0 y1
    by_cases c : e < N (20 * i + 2) - 1
    · obtain ⟨q1, q2⟩ := sp.1 e e0 c
      rw [q1] at y0 y1
      rw [q2] at y1
      refine ⟨by omega, y0, y1, fun u => ?_⟩
      have := hJ i e (N (20 * i + 2) - 1) y hi.1 hi.2 e0 (by omega) (by omega) (by omega) y0 y1 (by omega) (by omega)
      omega
    · rcases sp.2 with ⟨q0, q1, q2, q3⟩ | ⟨q0, q1⟩
      · have ee : e = N (20 * i + 2) - 1 := by omega
        subst ee
        rw [q2] at y0 y1
        rw [q3] at y1
        exact ⟨by omega, y0, by omega, by omega⟩
      · omega
  have iff : ∀ x, aIn N' i x ↔ aIn N i x ∧ x ≠ b := by
    intro x
    constructor
    · rintro ⟨e, e0, e1, e2, e3⟩
      obtain ⟨q1, q2, q3, q4⟩ := sub e x e0 e1 e2 e3
      exact ⟨⟨e, e0, q1, q2, q3⟩, q4⟩
    · rintro ⟨⟨e, e0, e1, e2, e3⟩, ne⟩
      by_cases c : e < N (20 * i + 2) - 1
      · obtain ⟨q1, q2⟩ := sp.1 e e0 c
        refine ⟨e, e0, ?_, by rw [q1]; exact e2, by rw [q1, q2]; exact e3⟩
        rcases sp.2 with ⟨-, q, -⟩ | ⟨-, q⟩
        · omega
        · omega
      · have ee : e = N (20 * i + 2) - 1 := by omega
        subst ee
        rcases sp.2 with ⟨q0, q1, q2, q3⟩ | ⟨q0, q1⟩
        · exact ⟨N (20 * i + 2) - 1, e0, by omega, by rw [q2]; exact e2, by rw [q2, q3]; omega⟩
        · omega
  refine ⟨b, inb, ?_, rfl, ?_, ?_, ?_⟩
  · show bU O _ 0 = bU O b 0
    rw [hb]
  · rw [hN']; exact iff
  · rw [hN']
    intro k k0 k1
    have k1 : k < aTot N i - 1 := k1
    rw [aTot_last h0] at k1
    have eg : gSum (fun e => N' (20 * i + 4 + 2 * e)) 0 (N (20 * i + 2) - 1).toNat = gSum (fun e => N (20 * i + 4 + 2 * e)) 0 (N (20 * i + 2) - 1).toNat := gSum_congr _ _ (fun x x1 x2 => (sp.1 x x1 (by omega)).2)
    have ek : ∀ k', aBk N' i (N (20 * i + 2) - 1).toNat 0 k' = aBk N i (N (20 * i + 2) - 1).toNat 0 k' := fun k' => aBk_congr _ _ _ (fun x x1 x2 => sp.1 x x1 (by omega))
    show aBlk N' i k = aBlk N i k
    unfold aBlk
    rw [show (N (20 * i + 2)).toNat = (N (20 * i + 2) - 1).toNat + 1 by omega, aBk_split _ _ _ _ k0 (fun x x1 x2 => hnn x x1 (by omega))]
    rcases sp.2 with ⟨q0, q1, q2, q3⟩ | ⟨q0, q1⟩
    · rw [q1, show (N (20 * i + 2)).toNat = (N (20 * i + 2) - 1).toNat + 1 by omega, aBk_split _ _ _ _ k0 (fun x x1 x2 => by rw [(sp.1 x x1 (by omega)).2]; exact hnn x x1 (by omega)), eg, ek]
      by_cases c : k < gSum (fun e => N (20 * i + 4 + 2 * e)) 0 (N (20 * i + 2) - 1).toNat
      · rw [if_pos c, if_pos c]
      · rw [if_neg c, if_neg c, show (0 : Int) + (((N (20 * i + 2) - 1).toNat : Nat) : Int) = N (20 * i + 2) - 1 by omega]
        unfold aBk
        rw [q2, q3, if_pos (by omega), if_pos (by omega)]
    · rw [q1, ek, if_pos (by omega)]
  · refine ⟨by rw [hN']; exact ga, fun k y k0 k1 u => ?_, ?_⟩
    · rw [hN'] at u
      show bU O _ 0 y = k + 1
      rw [hb]
      by_cases c : k = i
      · subst c
        obtain ⟨u1, u2⟩ := (iff y).mp u
        rw [bU_ne u2]
        exact own y u1
      · have u := (aIn_off go c (ha k k0 k1).2.2.1.2).mp u
        have v := hO k y k0 k1 u
        have v : O y = k + 1 := v
        rw [bU_ne (fun z => by have := own b inb; rw [z] at v; omega)]
        exact v
    · rw [hN']
      intro k e e' y k0 k1 e0 e1 e0' e1' y0 y1 y2 y3
      by_cases c : k = i
      · subst c
        obtain ⟨p1, p2, p3, -⟩ := sub e y e0 e1 y0 y1
        obtain ⟨q1, q2, q3, -⟩ := sub e' y e0' e1' y2 y3
        exact hJ k e e' y k0 k1 e0 p1 e0' q1 p2 p3 q2 q3
      · have hck : N (20 * k + 2) ≤ 8 := (ha k k0 k1).2.2.1.2
        have g : ∀ j, 20 * k ≤ j → j < 20 * k + 20 → N' j = N j := fun j j0 j1 => go j (by omega)
        rw [g _ (by omega) (by omega)] at e1 e1'
        rw [g (20 * k + 3 + 2 * e) (by omega) (by omega)] at y0 y1
        rw [g (20 * k + 4 + 2 * e) (by omega) (by omega)] at y1
        rw [g (20 * k + 3 + 2 * e') (by omega) (by omega)] at y2 y3
        rw [g (20 * k + 4 + 2 * e') (by omega) (by omega)] at y3
        exact hJ k e e' y k0 k1 e0 e1 e0' e1' y0 y1 y2 y3
theorem aGiveN_spec {B i : Int} (hi : 0 ≤ i ∧ i < 64) : ∀ (m : Nat) (A : aSt), aU B A → (m : Int) ≤ aTot A.1 i → aU B (aGiveN i m A) ∧ aTot (aGiveN i m A).1 i = aTot A.1 i - m ∧ ((aGiveN i m A).1 (20 * i) = A.1 (20 * i) ∧ (aGiveN i m A).1 (20 * i + 1) = A.1 (20 * i + 1)) ∧ aOff A.1 (aGiveN i m A).1 i ∧ (∀ k, 0 ≤ k → k < aTot A.1 i - m → aBlk (aGiveN i m A).1 i k = aBlk A.1 i k) ∧
    (aGiveN i m A).2.2 = A.2.2 ∧ (∀ b, aIn (aGiveN i m A).1 i b → aIn A.1 i b ∧ (aGiveN i m A).2.1 b = A.2.1 b) ∧ (∀ b, ¬ aIn A.1 i b → (aGiveN i m A).2.1 b = A.2.1 b) ∧ (∀ b, aIn A.1 i b → ¬ aIn (aGiveN i m A).1 i b → (aGiveN i m A).2.1 b = 0) := by
  intro m
  induction m with
  | zero =>
    intro A h _
    exact ⟨h, by show aTot A.1 i = aTot A.1 i - ((0 : Nat) : Int); omega, ⟨rfl, rfl⟩, fun _ _ => rfl, fun _ _ _ => rfl, rfl, fun _ u => ⟨u, rfl⟩, fun _ _ => rfl, fun _ u v => absurd u v⟩
  | succ m ih =>
    intro A h hm
    have h0 : 0 < A.1 (20 * i + 2) := aTot_pos (h.1 i hi.1 hi.2) (by omega)
    obtain ⟨-, s1, s2, s3, s4⟩ := aGive_N h.1 hi h0
    obtain ⟨b, b1, b2, b3, b4, b5, b6⟩ := aGive_spec h hi h0
    obtain ⟨i1, i2, ⟨i3, i3'⟩, i4, i5, i6, i7, i8, i9⟩ := ih (aGive A i) b6 (by omega)
    show aU B (aGiveN i m (aGive A i)) ∧ aTot (aGiveN i m (aGive A i)).1 i = aTot A.1 i - ((m + 1 : Nat) : Int) ∧ ((aGiveN i m (aGive A i)).1 (20 * i) = A.1 (20 * i) ∧ (aGiveN i m (aGive A i)).1 (20 * i + 1) = A.1 (20 * i + 1)) ∧ aOff A.1 (aGiveN i m (aGive A i)).1 i ∧ (∀ k, 0 ≤ k → k < aTot A.1 i - ((m + 1 : Nat) : Int) → aBlk (aGiveN i m (aGive A i)).1 i k = aBlk A.1 i k) ∧
      (aGiveN i m (aGive A i)).2.2 = A.2.2 ∧ (∀ b, aIn (aGiveN i m (aGive A i)).1 i b → aIn A.1 i b ∧ (aGiveN i m (aGive A i)).2.1 b = A.2.1 b) ∧ (∀ b, ¬ aIn A.1 i b → (aGiveN i m (aGive A i)).2.1 b = A.2.1 b) ∧ (∀ b, aIn A.1 i b → ¬ aIn (aGiveN i m (aGive A i)).1 i b → (aGiveN i m (aGive A i)).2.1 b = 0)
    refine ⟨i1, by omega, ⟨by rw [i3, s2], by rw [i3', s1]⟩, fun j hj => by rw [i4 j hj, s4 j hj], fun k k0 k1 => by rw [i5 k k0 (by omega), b5 k k0 (by omega)], by rw [i6, b3], fun y u => ?_, fun y u => ?_, fun y u v => ?_⟩
    · obtain ⟨u1, u2⟩ := i7 y u
      obtain ⟨v1, v2⟩ := (b4 y).mp u1
      exact ⟨v1, by rw [u2, b2, bU_ne v2]⟩
    · rw [i8 y (fun z => u ((b4 y).mp z).1), b2, bU_ne (fun z => u (by rw [z]; exact b1))]
    · by_cases c : y = b
      · have nb : ¬ aIn (aGive A i).1 i b := fun z => ((b4 b).mp z).2 rfl
        rw [c, i8 b nb, b2, bU_at]
      · exact i9 y ((b4 y).mpr ⟨u, c⟩) v
