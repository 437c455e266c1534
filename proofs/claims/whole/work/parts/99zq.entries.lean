/-! Entries entered, directories that grow, inodes freed: the tree stays good. -/
section ENTRIES
variable {B : Int} {A A' A1 : aSt} {d d' e e' i j k k' nm ino : Int}
theorem aEnter_get (g : aU B A) (hd : 0 ≤ d ∧ d < 64) (hd' : 0 ≤ d' ∧ d' < 64) (he : 0 ≤ e ∧ 4 * e + 3 < 64 * aTot A.1 d) (hk' : 0 ≤ k' ∧ k' < 64 * aTot A.1 d') (ne : ¬ (d' = d ∧ 4 * e ≤ k' ∧ k' < 4 * e + 3)) : aGet (aEnter A d e nm ino) d' k' = aGet A d' k' := by
  show bU (bU (bU A.2.2 (aIx A.1 d (4 * e)) _) (aIx A.1 d (4 * e + 1)) _) (aIx A.1 d (4 * e + 2)) _ (aIx A.1 d' k') = A.2.2 (aIx A.1 d' k')
  rw [bU_ne (fun c => ne (by have := aIx_inj g hd' hd hk' ⟨by omega, by omega⟩ c; omega)), bU_ne (fun c => ne (by have := aIx_inj g hd' hd hk' ⟨by omega, by omega⟩ c; omega)), bU_ne (fun c => ne (by have := aIx_inj g hd' hd hk' ⟨by omega, by omega⟩ c; omega))]
theorem aEnter_self (g : aU B A) (hd : 0 ≤ d ∧ d < 64) (he : 0 ≤ e ∧ 4 * e + 3 < 64 * aTot A.1 d) (hn : 0 ≤ nm ∧ nm ≤ 65535) (hi : 0 ≤ ino ∧ ino < 256) : aNm (aEnter A d e nm ino) d e = nm ∧ aNo (aEnter A d e nm ino) d e = ino := by
  have e0 : aGet (aEnter A d e nm ino) d (4 * e) = nm % 256 := by
    show bU (bU (bU A.2.2 (aIx A.1 d (4 * e)) _) (aIx A.1 d (4 * e + 1)) _) (aIx A.1 d (4 * e + 2)) _ (aIx A.1 d (4 * e)) = nm % 256
    rw [bU_ne (fun c => by have := aIx_inj g hd hd ⟨by omega, by omega⟩ ⟨by omega, by omega⟩ c; omega), bU_ne (fun c => by have := aIx_inj g hd hd ⟨by omega, by omega⟩ ⟨by omega, by omega⟩ c; omega), bU_at]
  have e1 : aGet (aEnter A d e nm ino) d (4 * e + 1) = nm / 256 % 256 := by
    show bU (bU (bU A.2.2 (aIx A.1 d (4 * e)) _) (aIx A.1 d (4 * e + 1)) _) (aIx A.1 d (4 * e + 2)) _ (aIx A.1 d (4 * e + 1)) = nm / 256 % 256
    rw [bU_ne (fun c => by have := aIx_inj g hd hd ⟨by omega, by omega⟩ ⟨by omega, by omega⟩ c; omega), bU_at]
  have e2 : aGet (aEnter A d e nm ino) d (4 * e + 2) = ino % 256 := by
    show bU (bU (bU A.2.2 (aIx A.1 d (4 * e)) _) (aIx A.1 d (4 * e + 1)) _) (aIx A.1 d (4 * e + 2)) _ (aIx A.1 d (4 * e + 2)) = ino % 256
    rw [bU_at]
  unfold aNm aNo
  rw [e0, e1, e2]
  exact ⟨by omega, by omega⟩
theorem aEnter_go (g : aGo B A) (hd : 0 ≤ d ∧ d < 64) (kd : A.1 (20 * d) = 2) (he : 0 ≤ e ∧ e < A.1 (20 * d + 1) / 4) : aGo B (aEnter A d e nm ino) ∧ ∀ d', 0 ≤ d' → d' < 64 → d' ≠ d → aSm A (aEnter A d e nm ino) d' := by
  have rm := g.1.room hd he
  have z := g.1.2 d hd.1 hd.2
  have own : ∀ y, (y = 4 * e ∨ y = 4 * e + 1 ∨ y = 4 * e + 2) → A.2.1 (aBlk A.1 d (y / 64)) = d + 1 := fun y hy => g.1.1.2.1 d _ hd.1 hd.2 (aBlk_in (g.1.1.1 d hd.1 hd.2) (by omega))
  refine aOne (A' := aEnter A d e nm ino) g hd g.1.1 (fun _ _ => rfl) (g.1.2 d hd.1 hd.2) (fun _ _ _ => Or.inl rfl) (fun b u _ => u) (fun b x b0 b1 ow x0 x1 => ?_) (fun b b0 b1 ow ne x x0 x1 => ?_) (fun z => ?_) (fun k' k0 k1 => ?_)
  · show (bU (bU (bU A.2.2 (aIx A.1 d (4 * e)) (nm % 256)) (aIx A.1 d (4 * e + 1)) (nm / 256 % 256)) (aIx A.1 d (4 * e + 2)) (ino % 256) (64 * b + x) = A.2.2 (64 * b + x) ∧ 0 < A.2.1 b) ∨ (0 ≤ bU (bU (bU A.2.2 (aIx A.1 d (4 * e)) (nm % 256)) (aIx A.1 d (4 * e + 1)) (nm / 256 % 256)) (aIx A.1 d (4 * e + 2)) (ino % 256) (64 * b + x) ∧ bU (bU (bU A.2.2 (aIx A.1 d (4 * e)) (nm % 256)) (aIx A.1 d (4 * e + 1)) (nm / 256 % 256)) (aIx A.1 d (4 * e + 2)) (ino % 256) (64 * b + x) < 256)
    by_cases c1 : 64 * b + x = aIx A.1 d (4 * e + 2)
    · rw [c1, bU_at]; exact Or.inr (by omega)
    · rw [bU_ne c1]
      by_cases c2 : 64 * b + x = aIx A.1 d (4 * e + 1)
      · rw [c2, bU_at]; exact Or.inr (by omega)
      · rw [bU_ne c2]
        by_cases c3 : 64 * b + x = aIx A.1 d (4 * e)
        · rw [c3, bU_at]; exact Or.inr (by omega)
        · rw [bU_ne c3]; exact Or.inl ⟨rfl, ow⟩
  · have nx : ∀ y, (y = 4 * e ∨ y = 4 * e + 1 ∨ y = 4 * e + 2) → 64 * b + x ≠ aIx A.1 d y := fun y hy c => by
      unfold aIx at c
      have eb : b = aBlk A.1 d (y / 64) := by omega
      have o := own y hy
      rw [← eb] at o
      exact ne o
    show bU (bU (bU A.2.2 (aIx A.1 d (4 * e)) _) (aIx A.1 d (4 * e + 1)) _) (aIx A.1 d (4 * e + 2)) _ (64 * b + x) = A.2.2 (64 * b + x)
    rw [bU_ne (nx _ (by omega)), bU_ne (nx _ (by omega)), bU_ne (nx _ (by omega))]
  · have z : A.1 (20 * d) = 0 := z
    omega
  · have k0 : A.1 (20 * d + 1) ≤ k' := k0
    have k1 : k' < 64 * aTot A.1 d := k1
    have := z.2 kd
    omega
theorem aEnter_nd (g : aG B A) (hd : 0 ≤ d ∧ d < 64) (he : 0 ≤ e ∧ e < A.1 (20 * d + 1) / 4) (ne : ¬ (d' = d ∧ e' = e)) : (aNd (aEnter A d e nm ino) d' e' ↔ aNd A d' e') ∧ (aNd A d' e' → aNo (aEnter A d e nm ino) d' e' = aNo A d' e') := by
  have rm := g.room hd he
  have nmE : (0 ≤ d' ∧ d' < 64) → (0 ≤ e' ∧ e' < A.1 (20 * d' + 1) / 4) → aNm (aEnter A d e nm ino) d' e' = aNm A d' e' ∧ aNo (aEnter A d e nm ino) d' e' = aNo A d' e' := fun h1 h2 => by
    have rm' := g.room h1 h2
    unfold aNm aNo
    rw [aEnter_get g.1 hd h1 ⟨he.1, rm⟩ ⟨by omega, by omega⟩ (by omega), aEnter_get g.1 hd h1 ⟨he.1, rm⟩ ⟨by omega, by omega⟩ (by omega), aEnter_get g.1 hd h1 ⟨he.1, rm⟩ ⟨by omega, by omega⟩ (by omega)]
    exact ⟨rfl, rfl⟩
  constructor
  · constructor
    · rintro ⟨u1, u2, u3, u4⟩
      exact ⟨u1, u2, u3, by rw [← (nmE u1 u3).1]; exact u4⟩
    · rintro ⟨u1, u2, u3, u4⟩
      exact ⟨u1, u2, u3, by rw [(nmE u1 u3).1]; exact u4⟩
  · rintro ⟨u1, u2, u3, u4⟩
    exact (nmE u1 u3).2
/-- a directory grows by a block -/
theorem aGrow_go (g : aGo B A) (hB : 96 ≤ B ∧ B ≤ 768) (hd : 0 ≤ d ∧ d < 64) (kd : A.1 (20 * d) = 2) (ht : aTake B A d = some A1) : aGo B (bU A1.1 (20 * d + 1) (A.1 (20 * d + 1) + 64), A1.2.1, A1.2.2) ∧ (∀ j, ¬ (20 * d ≤ j ∧ j < 20 * d + 20) → bU A1.1 (20 * d + 1) (A.1 (20 * d + 1) + 64) j = A.1 j) ∧ bU A1.1 (20 * d + 1) (A.1 (20 * d + 1) + 64) (20 * d) = 2 ∧ ∀ d' e', (aNd (bU A1.1 (20 * d + 1) (A.1 (20 * d + 1) + 64), A1.2.1, A1.2.2) d' e' ↔ aNd A d' e') ∧ (aNd A d' e' → aNo (bU A1.1 (20 * d + 1) (A.1 (20 * d + 1) + 64), A1.2.1, A1.2.2) d' e' = aNo A d' e') := by
  have le := g.1.le hB hd
  have z := g.1.2 d hd.1 hd.2
  have z6 := z.2 kd
  have re := aRes_one (B := B) (d := d) (s := A.1 (20 * d + 1)) (A := A) rfl z6 le.1
  rw [ht] at re
  obtain ⟨⟨g1, g2⟩, ⟨g3, g4⟩, g5⟩ := aRes_go g hd (by omega) (by omega) (fun _ => by omega) re
  obtain ⟨b, b1, b2, b3, b4, b5, b6, b7⟩ := aTake_spec g.1.1 hd ht
  have c8 : A1.1 (20 * d + 2) ≤ 8 := (b7.1 d hd.1 hd.2).2.2.1.2
  have old : ∀ k, 0 ≤ k → k < A.1 (20 * d + 1) → aGet (bU A1.1 (20 * d + 1) (A.1 (20 * d + 1) + 64), A1.2.1, A1.2.2) d k = aGet A d k := fun k k0 k1 => by
    show A1.2.2 (64 * aBlk (bU A1.1 (20 * d + 1) (A.1 (20 * d + 1) + 64)) d (k / 64) + k % 64) = A.2.2 (64 * aBlk A.1 d (k / 64) + k % 64)
    rw [aBlk_size c8, b5 (k / 64) (by omega) (by omega), b3]
    have o := g.1.1.2.1 d _ hd.1 hd.2 (aBlk_in (g.1.1.1 d hd.1 hd.2) (k := k / 64) (by omega))
    unfold bZ
    rw [if_neg (fun c => b1.2.2 (by rw [show b = aBlk A.1 d (k / 64) by omega, o]; omega))]
  have new : ∀ k, A.1 (20 * d + 1) ≤ k → k < A.1 (20 * d + 1) + 64 → aGet (bU A1.1 (20 * d + 1) (A.1 (20 * d + 1) + 64), A1.2.1, A1.2.2) d k = 0 := fun k k0 k1 => by
    show A1.2.2 (64 * aBlk (bU A1.1 (20 * d + 1) (A.1 (20 * d + 1) + 64)) d (k / 64) + k % 64) = 0
    rw [aBlk_size c8, show k / 64 = aTot A.1 d by omega, b6, b3]
    unfold bZ
    rw [if_pos (by omega)]
  refine ⟨g1, g5, by rw [← kd]; exact g4, fun d' e' => ?_⟩
  by_cases c : d' = d
  · subst c
    have nmE : (0 ≤ e' ∧ e' < A.1 (20 * d' + 1) / 4) → aNm (bU A1.1 (20 * d' + 1) (A.1 (20 * d' + 1) + 64), A1.2.1, A1.2.2) d' e' = aNm A d' e' ∧ aNo (bU A1.1 (20 * d' + 1) (A.1 (20 * d' + 1) + 64), A1.2.1, A1.2.2) d' e' = aNo A d' e' := fun h2 => by
      unfold aNm aNo
      rw [old _ (by omega) (by omega), old _ (by omega) (by omega), old _ (by omega) (by omega)]
      exact ⟨rfl, rfl⟩
    constructor
    · constructor
      · rintro ⟨u1, -, u3, u4⟩
        have u3 : 0 ≤ e' ∧ e' < bU A1.1 (20 * d' + 1) (A.1 (20 * d' + 1) + 64) (20 * d' + 1) / 4 := u3
        rw [bU_at] at u3
        by_cases c2 : e' < A.1 (20 * d' + 1) / 4
        · exact ⟨u1, kd, ⟨u3.1, c2⟩, by rw [← (nmE ⟨u3.1, c2⟩).1]; exact u4⟩
        · refine absurd ?_ u4
          unfold aNm
          rw [new _ (by omega) (by omega), new _ (by omega) (by omega)]
          decide
      · rintro ⟨u1, u2, u3, u4⟩
        refine ⟨u1, by rw [← kd]; exact g4, ?_, by rw [(nmE u3).1]; exact u4⟩
        show 0 ≤ e' ∧ e' < bU A1.1 (20 * d' + 1) (A.1 (20 * d' + 1) + 64) (20 * d' + 1) / 4
        rw [bU_at]
        omega
    · rintro ⟨u1, u2, u3, u4⟩
      exact (nmE u3).2
  · by_cases r : 0 ≤ d' ∧ d' < 64
    · exact (g2 d' r.1 r.2 c).nd g.1
    · exact ⟨⟨fun u => absurd u.1 r, fun u => absurd u.1 r⟩, fun u => absurd u.1 r⟩
/-- an entry added -/
theorem aAdd_sp (g : aGo B A) (hB : 96 ≤ B ∧ B ≤ 768) (hd : 0 ≤ d ∧ d < 64) (kd : A.1 (20 * d) = 2) (hn : 1 ≤ nm ∧ nm ≤ 65535) (hi : 0 ≤ ino ∧ ino < 256) (h : aAdd B A d nm ino = some A') : aGo B A' ∧ (∀ j, ¬ (20 * d ≤ j ∧ j < 20 * d + 20) → A'.1 j = A.1 j) ∧ A'.1 (20 * d) = 2 ∧ ∃ e, (aNd A' d e ∧ aNo A' d e = ino) ∧ ∀ d' e', ¬ (d' = d ∧ e' = e) → (aNd A' d' e' ↔ aNd A d' e') ∧ (aNd A d' e' → aNo A' d' e' = aNo A d' e') := by
  unfold aAdd at h
  by_cases c : aEnt A d 0 = -1
  · rw [if_pos c] at h
    cases ht : aTake B A d with
    | none => rw [ht] at h; cases h
    | some A1 =>
      rw [ht] at h
      have h := (Option.some.inj h).symm
      obtain ⟨g1, g2, g3, g4⟩ := aGrow_go g hB hd kd ht
      have le := g.1.le hB hd
      have z6 := (g.1.2 d hd.1 hd.2).2 kd
      have he : 0 ≤ A.1 (20 * d + 1) / 4 ∧ A.1 (20 * d + 1) / 4 < bU A1.1 (20 * d + 1) (A.1 (20 * d + 1) + 64) (20 * d + 1) / 4 := by rw [bU_at]; omega
      subst h
      have rm := g1.1.room hd he
      have se := aEnter_self (nm := nm) (ino := ino) g1.1.1 hd ⟨he.1, rm⟩ (by omega) hi
      refine ⟨(aEnter_go g1 hd g3 he).1, g2, g3, A.1 (20 * d + 1) / 4, ⟨⟨hd, g3, he, by rw [se.1]; omega⟩, se.2⟩, fun d' e' ne => ?_⟩
      have q := aEnter_nd (nm := nm) (ino := ino) g1.1 hd he ne
      have q4 := g4 d' e'
      exact ⟨q.1.trans q4.1, fun u => by rw [q.2 (q4.1.mpr u), q4.2 u]⟩
  · rw [if_neg c] at h
    have h := (Option.some.inj h).symm
    have he := (aEnt_rg c).1
    subst h
    have rm := g.1.room hd he
    have se := aEnter_self (nm := nm) (ino := ino) g.1.1 hd ⟨he.1, rm⟩ (by omega) hi
    exact ⟨(aEnter_go g hd kd he).1, fun _ _ => rfl, kd, aEnt A d 0, ⟨⟨hd, kd, he, by rw [se.1]; omega⟩, se.2⟩, fun d' e' ne => aEnter_nd g.1 hd he ne⟩
/-- an inode freed -/
theorem aFree_go (g : aGo B A) (hi : 1 ≤ i ∧ i < 64) : aGo B (aFree A i) ∧ ∀ d, 0 ≤ d → d < 64 → d ≠ i → aSm A (aFree A i) d := by
  have nz : ∀ j, 20 * i ≤ j → j < 20 * i + 20 → (aFree A i).1 j = 0 := fun j j0 j1 => by
    show bR A.1 (20 * i) (20 * i + 20) j = 0
    unfold bR
    rw [if_pos ⟨j0, j1⟩]
  have ns : ∀ j, ¬ (20 * i ≤ j ∧ j < 20 * i + 20) → (aFree A i).1 j = A.1 j := fun j hj => by
    show bR A.1 (20 * i) (20 * i + 20) j = A.1 j
    unfold bR
    rw [if_neg hj]
  have o1 : ∀ b, aIn A.1 i b → (aFree A i).2.1 b = 0 := fun b u => by
    show @ite _ (aIn A.1 i b) (Classical.propDecidable _) 0 (A.2.1 b) = 0
    rw [if_pos u]
  have o0 : ∀ b, ¬ aIn A.1 i b → (aFree A i).2.1 b = A.2.1 b := fun b u => by
    show @ite _ (aIn A.1 i b) (Classical.propDecidable _) 0 (A.2.1 b) = A.2.1 b
    rw [if_neg u]
  have n2 := nz (20 * i + 2) (by omega) (by omega)
  have t0 : aTot (aFree A i).1 i = 0 := by
    unfold aTot
    rw [n2]
    rfl
  have eq : ∀ k, k ≠ i → ∀ j, 20 * k ≤ j → j < 20 * k + 20 → (aFree A i).1 j = A.1 j := fun k hk j j0 j1 => ns j (by omega)
  have c8 : ∀ j, 0 ≤ j → j < 64 → A.1 (20 * j + 2) ≤ 8 := fun j j0 j1 => (g.1.1.1 j j0 j1).2.2.1.2
  refine aOne g (by omega) ⟨aN_off g.1.1.1 ns ?_, fun k y k0 k1 u => ?_, fun k e e' y k0 k1 e0 e1 e0' e1' y0 y1 y2 y3 => ?_⟩ ns ?_ (fun b b0 b1 => ?_) (fun b u z => absurd (o1 b u) z) (fun b x b0 b1 o x0 x1 => ?_) (fun b b0 b1 o ne x x0 x1 => rfl) (fun _ => ⟨nz _ (by omega) (by omega), hi.1⟩) (fun k k0 k1 => ?_)
  · refine ⟨Or.inl (nz _ (by omega) (by omega)), by rw [nz _ (by omega) (by omega)]; decide, by rw [n2]; decide, fun e e0 e1 => ?_⟩
    rw [n2] at e1
    omega
  · by_cases c : k = i
    · subst c
      obtain ⟨e, e0, e1, -⟩ := u
      rw [n2] at e1
      omega
    · have u := (aIn_eq (eq k c) (c8 k k0 k1)).mp u
      have ow := g.1.1.2.1 k y k0 k1 u
      rw [o0 y (fun v => by have := g.1.1.2.1 i y (by omega) hi.2 v; omega)]
      exact ow
  · by_cases c : k = i
    · subst c
      rw [n2] at e1
      omega
    · have hck := c8 k k0 k1
      rw [eq k c (20 * k + 2) (by omega) (by omega)] at e1 e1'
      rw [eq k c (20 * k + 3 + 2 * e) (by omega) (by omega)] at y0 y1
      rw [eq k c (20 * k + 4 + 2 * e) (by omega) (by omega)] at y1
      rw [eq k c (20 * k + 3 + 2 * e') (by omega) (by omega)] at y2 y3
      rw [eq k c (20 * k + 4 + 2 * e') (by omega) (by omega)] at y3
      exact g.1.1.2.2 k e e' y k0 k1 e0 e1 e0' e1' y0 y1 y2 y3
  · rw [t0, nz (20 * i + 1) (by omega) (by omega), nz (20 * i) (by omega) (by omega)]
    exact ⟨by decide, fun z => absurd z (by decide)⟩
  · by_cases c : aIn A.1 i b
    · exact Or.inr (Or.inl ⟨(aIn_rg (g.1.1.1 i (by omega) hi.2) c).1, o1 b c⟩)
    · exact Or.inl (o0 b c)
  · by_cases c : aIn A.1 i b
    · have := o1 b c
      omega
    · rw [o0 b c] at o
      exact Or.inl ⟨rfl, o⟩
  · rw [t0] at k1
    have := nz (20 * i + 1) (by omega) (by omega)
    omega
/-- a name doesn't lead to its own directory -/
theorem aTr.ne (h : aTr A) (hd : aNd A d e) : aNo A d e ≠ d := by
  obtain ⟨ρ, hρ⟩ := aTr_rank h
  intro c
  have := hρ d e hd
  rw [c] at this
  omega
/-- one order is as good as another -/
theorem aIx_free (g : aN B A.1) (hd : 0 ≤ d ∧ d < 64) (ne : d ≠ i) : aIx (aFree A i).1 d k = aIx A.1 d k := by
  unfold aIx
  rw [aBlk_eq (N := A.1) (fun j j0 j1 => by
    show bR A.1 (20 * i) (20 * i + 20) j = A.1 j
    unfold bR
    rw [if_neg (by omega)]) (g d hd.1 hd.2).2.2.1.2]
theorem aEnter_free (g : aN B A.1) (hd : 0 ≤ d ∧ d < 64) (ne : d ≠ i) : aEnter (aFree A i) d e nm ino = aFree (aEnter A d e nm ino) i := by
  show ((aFree A i).1, (aFree A i).2.1, bU (bU (bU A.2.2 (aIx (aFree A i).1 d (4 * e)) (nm % 256)) (aIx (aFree A i).1 d (4 * e + 1)) (nm / 256 % 256)) (aIx (aFree A i).1 d (4 * e + 2)) (ino % 256)) = ((aFree A i).1, (aFree A i).2.1, bU (bU (bU A.2.2 (aIx A.1 d (4 * e)) (nm % 256)) (aIx A.1 d (4 * e + 1)) (nm / 256 % 256)) (aIx A.1 d (4 * e + 2)) (ino % 256))
  rw [aIx_free g hd ne, aIx_free g hd ne, aIx_free g hd ne]
theorem aEnter_comm {nm' ino' : Int} (g : aU B A) (hd : 0 ≤ d ∧ d < 64) (hd' : 0 ≤ d' ∧ d' < 64) (he : 0 ≤ e ∧ 4 * e + 3 < 64 * aTot A.1 d) (he' : 0 ≤ e' ∧ 4 * e' + 3 < 64 * aTot A.1 d') (ne : ¬ (d' = d ∧ e' = e)) : aEnter (aEnter A d e nm ino) d' e' nm' ino' = aEnter (aEnter A d' e' nm' ino') d e nm ino := by
  have nx : ∀ x y, (x = 4 * e ∨ x = 4 * e + 1 ∨ x = 4 * e + 2) → (y = 4 * e' ∨ y = 4 * e' + 1 ∨ y = 4 * e' + 2) → aIx A.1 d x ≠ aIx A.1 d' y := fun x y hx hy c => ne (by
    have := aIx_inj g hd hd' ⟨by omega, by omega⟩ ⟨by omega, by omega⟩ c
    omega)
  show (A.1, A.2.1, bU (bU (bU (bU (bU (bU A.2.2 (aIx A.1 d (4 * e)) (nm % 256)) (aIx A.1 d (4 * e + 1)) (nm / 256 % 256)) (aIx A.1 d (4 * e + 2)) (ino % 256)) (aIx A.1 d' (4 * e')) (nm' % 256)) (aIx A.1 d' (4 * e' + 1)) (nm' / 256 % 256)) (aIx A.1 d' (4 * e' + 2)) (ino' % 256)) = (A.1, A.2.1, bU (bU (bU (bU (bU (bU A.2.2 (aIx A.1 d' (4 * e')) (nm' % 256)) (aIx A.1 d' (4 * e' + 1)) (nm' / 256 % 256)) (aIx A.1 d' (4 * e' + 2)) (ino' % 256)) (aIx A.1 d (4 * e)) (nm % 256)) (aIx A.1 d (4 * e + 1)) (nm / 256 % 256)) (aIx A.1 d (4 * e + 2)) (ino % 256))
  have q : ∀ (W : Int → Int) (y v : Int), (y = 4 * e' ∨ y = 4 * e' + 1 ∨ y = 4 * e' + 2) → bU (bU (bU (bU W (aIx A.1 d (4 * e)) (nm % 256)) (aIx A.1 d (4 * e + 1)) (nm / 256 % 256)) (aIx A.1 d (4 * e + 2)) (ino % 256)) (aIx A.1 d' y) v = bU (bU (bU (bU W (aIx A.1 d' y) v) (aIx A.1 d (4 * e)) (nm % 256)) (aIx A.1 d (4 * e + 1)) (nm / 256 % 256)) (aIx A.1 d (4 * e + 2)) (ino % 256) := fun W y v hy => by
    rw [bU_comm (nx (4 * e + 2) y (by omega) hy), bU_comm (nx (4 * e + 1) y (by omega) hy), bU_comm (nx (4 * e) y (by omega) hy)]
  rw [q _ _ _ (by omega), q _ _ _ (by omega), q _ _ _ (by omega)]
end ENTRIES
