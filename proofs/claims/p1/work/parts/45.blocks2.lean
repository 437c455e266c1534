/-! Blocks given back, ends cleared, inodes released, sizes. -/
/-- how many blocks an inode has -/
noncomputable def aTot (N : Int → Int) (i : Int) : Int := gSum (fun e => N (20 * i + 4 + 2 * e)) 0 (N (20 * i + 2)).toNat
/-- a block is an inode's -/
def aIn (N : Int → Int) (i b : Int) : Prop := ∃ e, 0 ≤ e ∧ e < N (20 * i + 2) ∧ N (20 * i + 3 + 2 * e) ≤ b ∧ b < N (20 * i + 3 + 2 * e) + N (20 * i + 4 + 2 * e)
theorem aBk_in {N : Int → Int} {i : Int} : ∀ (m : Nat) (e k : Int), 0 ≤ e → e + m = N (20 * i + 2) → 0 ≤ k → k < gSum (fun e => N (20 * i + 4 + 2 * e)) e m → ∃ x, e ≤ x ∧ x < N (20 * i + 2) ∧ N (20 * i + 3 + 2 * x) ≤ aBk N i m e k ∧ aBk N i m e k < N (20 * i + 3 + 2 * x) + N (20 * i + 4 + 2 * x) := by
  intro m
  induction m with
  | zero =>
    intro e k e1 e2 k1 k2
    have k2 : k < 0 := k2
    omega
  | succ m ih =>
    intro e k e1 e2 k1 k2
    have k2 : k < N (20 * i + 4 + 2 * e) + gSum (fun e => N (20 * i + 4 + 2 * e)) (e + 1) m := k2
    unfold aBk
    by_cases c : k < N (20 * i + 4 + 2 * e)
    · rw [if_pos c]
      exact ⟨e, by omega, by omega, by omega, by omega⟩
    · rw [if_neg c]
      obtain ⟨x, x1, x2, x3, x4⟩ := ih (e + 1) (k - N (20 * i + 4 + 2 * e)) (by omega) (by omega) (by omega) (by omega)
      exact ⟨x, by omega, x2, x3, x4⟩
theorem aBlk_in {B : Int} {N : Int → Int} {i k : Int} (ha : aI B N i) (hk : 0 ≤ k ∧ k < aTot N i) : aIn N i (aBlk N i k) := by
  have hc := ha.2.2.1
  obtain ⟨x, x1, x2, x3, x4⟩ := aBk_in (N := N) (i := i) (N (20 * i + 2)).toNat 0 k (by omega) (by omega) hk.1 hk.2
  exact ⟨x, x1, x2, x3, x4⟩
theorem aIn_rg {B : Int} {N : Int → Int} {i b : Int} (ha : aI B N i) (h : aIn N i b) : 59 ≤ b ∧ b < B := by
  obtain ⟨e, e1, e2, e3, e4⟩ := h
  have := ha.2.2.2 e e1 e2
  omega
/-- the last block given back -/
noncomputable def aGive (A : aSt) (i : Int) : aSt :=
  (if 0 < A.1 (20 * i + 4 + 2 * (A.1 (20 * i + 2) - 1)) - 1 then bU A.1 (20 * i + 4 + 2 * (A.1 (20 * i + 2) - 1)) (A.1 (20 * i + 4 + 2 * (A.1 (20 * i + 2) - 1)) - 1) else bU (bU (bU A.1 (20 * i + 4 + 2 * (A.1 (20 * i + 2) - 1)) 0) (20 * i + 3 + 2 * (A.1 (20 * i + 2) - 1)) 0) (20 * i + 2) (A.1 (20 * i + 2) - 1),
   bU A.2.1 (A.1 (20 * i + 3 + 2 * (A.1 (20 * i + 2) - 1)) + (A.1 (20 * i + 4 + 2 * (A.1 (20 * i + 2) - 1)) - 1)) 0, A.2.2)
/-- the bytes from a to b cleared -/
def bR (β : Int → Int) (a b : Int) : Int → Int := fun j => if a ≤ j ∧ j < b then 0 else β j
def aClr (N W : Int → Int) (i s : Int) : Int → Int := if s % 64 = 0 then W else bR W (64 * aBlk N i (s / 64) + s % 64) (64 * aBlk N i (s / 64) + 64)
noncomputable def aFree (A : aSt) (i : Int) : aSt := (bR A.1 (20 * i) (20 * i + 20), fun b => @ite _ (aIn A.1 i b) (Classical.propDecidable _) 0 (A.2.1 b), A.2.2)
section GIVE
variable {F : zHp} {B n : Int} {X : List Int} {β : Int → Int} {t : Nat} {L : Int → Int} {H : zHp} {Qr Qt : Int → zS → Prop} {i s : Int} {A : aSt}
theorem mX5 {X : List Int} {b : Int} (hX : 57 ∈ X ∧ 58 ∈ X) (b1 : 0 ≤ b) (b2 : b < 1024) : 57 + b / 512 ∈ X := by
  have : 57 + b / 512 = 57 ∨ 57 + b / 512 = 58 := by omega
  rcases this with u | u
  · rw [u]; exact hX.1
  · rw [u]; exact hX.2
theorem n_giveLast (h : fS F B n X β L H) (hE : aE B A β) (ha : aN B A.1) (hi : 0 ≤ i ∧ i < 64) (hX : 25 + i / 2 ∈ X ∧ 57 ∈ X ∧ 58 ∈ X) (hc0 : 0 < A.1 (20 * i + 2))
    (h1 : ∀ β' H', fS F B n X β' L H' → aE B (aGive A i) β' → Qr 0 (t, L, H')) : zEnds 80 117 0 [(26, 26), (0, i), (9, 0), (9, 0), (9, 0)] [] (t, L, H) Qr Qt := by
  obtain ⟨N, O, W⟩ := A
  have hl := h.1.1
  have hI : eI N β i := hE.1 i hi.1 hi.2
  have hA : aI B N i := ha i hi.1 hi.2
  have hc := hA.2.2.1
  have hβ := fun j (hj : 0 ≤ j) => h.rg j hj
  have hc0 : 0 < N (20 * i + 2) := hc0
  have hx := hA.2.2.2 (N (20 * i + 2) - 1) (by omega) (by omega)
  have hG1 : 0 < N (20 * i + 4 + 2 * (N (20 * i + 2) - 1)) - 1 → aGive (N, O, W) i = (bU N (20 * i + 4 + 2 * (N (20 * i + 2) - 1)) (N (20 * i + 4 + 2 * (N (20 * i + 2) - 1)) - 1), bU O (N (20 * i + 3 + 2 * (N (20 * i + 2) - 1)) + (N (20 * i + 4 + 2 * (N (20 * i + 2) - 1)) - 1)) 0, W) := fun z => by
    unfold aGive
    dsimp only
    rw [if_pos z]
  have hG2 : ¬ 0 < N (20 * i + 4 + 2 * (N (20 * i + 2) - 1)) - 1 → aGive (N, O, W) i = (bU (bU (bU N (20 * i + 4 + 2 * (N (20 * i + 2) - 1)) 0) (20 * i + 3 + 2 * (N (20 * i + 2) - 1)) 0) (20 * i + 2) (N (20 * i + 2) - 1), bU O (N (20 * i + 3 + 2 * (N (20 * i + 2) - 1)) + (N (20 * i + 4 + 2 * (N (20 * i + 2) - 1)) - 1)) 0, W) := fun z => by
    unfold aGive
    dsimp only
    rw [if_neg z]
  generalize aGive (N, O, W) i = A' at h1 hG1 hG2
  refine v_117 (n_count h hI hi ?_)
  generalize hcc : N (20 * i + 2) = c at hc hc0 hx hG1 hG2 ⊢
  rw [z32_id (x := c - 1) (by omega) (by omega)]
  refine ⟨fun _ => n_first h hI hi (by omega) (by omega) (n_len h hI hi (by omega) ?_), fun z => by omega⟩
  generalize hff : N (20 * i + 3 + 2 * (c - 1)) = f at hx hG1 hG2 ⊢
  generalize hll : N (20 * i + 4 + 2 * (c - 1)) = l at hx hG1 hG2 ⊢
  rw [z32_id (x := l - 1) (by omega) (by omega), z32_id (x := f + (l - 1)) (by omega) (by omega)]
  refine i_giveBack h (by omega) (mX5 hX.2 (by omega) (by omega)) (fun H1 g1 => ⟨fun z => ?_, fun z => ?_⟩)
  · rw [hG2 (by omega)] at h1
    refine n_setExtent g1 hi (by omega) (by omega) hX.1 (fun H2 g2 => n_setExtents g2 hi hX.1 (fun H3 g3 => h1 _ H3 g3 (aE_give hE hβ (by omega) (by omega) (eN_one (i := i) ha hE.1 (fun j hj => ?_) (fun j j1 j2 => ?_) ?_) (fun j hj => ?_))))
    · rw [bU_ne (by omega), bU_ne (by omega), bU_ne (by omega)]
    · rw [bU_ne (by omega), bU_ne (by omega), bU_ne (by omega), bU_ne (by omega), mU_lo (by omega) j1]
    · have q : ∀ x, x ≠ 1 → x ≠ 4 + 3 * (c - 1) → x ≠ 5 + 3 * (c - 1) → x ≠ 6 + 3 * (c - 1) → x < 32 → bU (bU (bU (bU (mU β (f + (l - 1)) 0) (1600 + 32 * i + (4 + 3 * (c - 1))) (0 % 256)) (1600 + 32 * i + (5 + 3 * (c - 1))) (0 / 256 % 256)) (1600 + 32 * i + (6 + 3 * (c - 1))) (0 % 256)) (1600 + 32 * i + 1) ((c - 1) % 256) (1600 + 32 * i + x) = β (1600 + 32 * i + x) := fun x x1 x2 x3 x4 x5 => by
        rw [bU_ne (by omega), bU_ne (by omega), bU_ne (by omega), bU_ne (by omega), mU_lo (by omega) (by omega)]
      have q0 := q 0 (by omega) (by omega) (by omega) (by omega) (by omega)
      rw [Int.add_zero] at q0
      have hN2 : bU (bU (bU N (20 * i + 4 + 2 * (c - 1)) 0) (20 * i + 3 + 2 * (c - 1)) 0) (20 * i + 2) (c - 1) (20 * i + 2) = c - 1 := bU_at
      obtain ⟨i1, i2, i3, i4, i5, i6⟩ := hI
      refine ⟨?_, ?_, ?_, ?_, ?_, fun e e1 e2 => ?_⟩
      · rw [q0, bU_ne (by omega), bU_ne (by omega), bU_ne (by omega)]; exact i1
      · rw [hN2, bU_at]; omega
      · rw [q 2 (by omega) (by omega) (by omega) (by omega) (by omega), bU_ne (by omega), bU_ne (by omega), bU_ne (by omega)]; exact i3
      · rw [q 3 (by omega) (by omega) (by omega) (by omega) (by omega), bU_ne (by omega), bU_ne (by omega), bU_ne (by omega)]; exact i4
      · rw [q 31 (by omega) (by omega) (by omega) (by omega) (by omega)]; exact i5
      · rw [hN2]
        by_cases ce : e = c - 1
        · rw [ce]
          refine ⟨fun u => by omega, fun _ => ⟨?_, ?_, ?_⟩⟩
          · rw [bU_ne (by omega), bU_ne (by omega), bU_ne (by omega), bU_at]; rfl
          · rw [bU_ne (by omega), bU_ne (by omega), bU_at]; rfl
          · rw [bU_ne (by omega), bU_at]; rfl
        · rw [q (4 + 3 * e) (by omega) (by omega) (by omega) (by omega) (by omega), q (5 + 3 * e) (by omega) (by omega) (by omega) (by omega) (by omega), q (6 + 3 * e) (by omega) (by omega) (by omega) (by omega) (by omega)]
          refine ⟨fun u => ?_, fun u => (i6 e e1 e2).2 (by omega)⟩
          rw [bU_ne (by omega), bU_ne (by omega), bU_ne (by omega), bU_ne (by omega), bU_ne (by omega), bU_ne (by omega)]
          exact (i6 e e1 e2).1 (by omega)
    · rw [bU_ne (by omega), bU_ne (by omega), bU_ne (by omega), bU_ne (by omega)]
  · rw [hG1 (by omega)] at h1
    refine n_setExtent g1 hi (by omega) (by omega) hX.1 (fun H3 g3 => h1 _ H3 g3 (aE_give hE hβ (by omega) (by omega) (eN_one (i := i) ha hE.1 (fun j hj => ?_) (fun j j1 j2 => ?_) ?_) (fun j hj => ?_)))
    · rw [bU_ne (by omega)]
    · rw [bU_ne (by omega), bU_ne (by omega), bU_ne (by omega), mU_lo (by omega) j1]
    · have q : ∀ x, x ≠ 4 + 3 * (c - 1) → x ≠ 5 + 3 * (c - 1) → x ≠ 6 + 3 * (c - 1) → x < 32 → bU (bU (bU (mU β (f + (l - 1)) 0) (1600 + 32 * i + (4 + 3 * (c - 1))) (f % 256)) (1600 + 32 * i + (5 + 3 * (c - 1))) (f / 256 % 256)) (1600 + 32 * i + (6 + 3 * (c - 1))) ((l - 1) % 256) (1600 + 32 * i + x) = β (1600 + 32 * i + x) := fun x x2 x3 x4 x5 => by
        rw [bU_ne (by omega), bU_ne (by omega), bU_ne (by omega), mU_lo (by omega) (by omega)]
      have q0 := q 0 (by omega) (by omega) (by omega) (by omega)
      rw [Int.add_zero] at q0
      have hN2 : bU N (20 * i + 4 + 2 * (c - 1)) (l - 1) (20 * i + 2) = c := by rw [bU_ne (by omega), hcc]
      obtain ⟨i1, i2, i3, i4, i5, i6⟩ := hI
      refine ⟨?_, ?_, ?_, ?_, ?_, fun e e1 e2 => ?_⟩
      · rw [q0, bU_ne (by omega)]; exact i1
      · rw [hN2, q 1 (by omega) (by omega) (by omega) (by omega), i2, hcc]
      · rw [q 2 (by omega) (by omega) (by omega) (by omega), bU_ne (by omega)]; exact i3
      · rw [q 3 (by omega) (by omega) (by omega) (by omega), bU_ne (by omega)]; exact i4
      · rw [q 31 (by omega) (by omega) (by omega) (by omega)]; exact i5
      · rw [hN2]
        by_cases ce : e = c - 1
        · rw [ce]
          refine ⟨fun _ => ⟨?_, ?_, ?_⟩, fun u => by omega⟩
          · rw [bU_ne (by omega), bU_ne (by omega), bU_at, bU_ne (by omega), hff]
          · rw [bU_ne (by omega), bU_at, bU_ne (by omega), hff]
          · rw [bU_at, bU_at]; omega
        · rw [q (4 + 3 * e) (by omega) (by omega) (by omega) (by omega), q (5 + 3 * e) (by omega) (by omega) (by omega) (by omega), q (6 + 3 * e) (by omega) (by omega) (by omega) (by omega)]
          refine ⟨fun u => ?_, fun u => (i6 e e1 e2).2 (by omega)⟩
          rw [bU_ne (by omega), bU_ne (by omega)]
          exact (i6 e e1 e2).1 (by omega)
    · rw [bU_ne (by omega), bU_ne (by omega), bU_ne (by omega)]
theorem fS.eq {F : zHp} {B n : Int} {X : List Int} {β β' : Int → Int} {L : Int → Int} {H : zHp} (h : fS F B n X β L H) (he : ∀ j, 0 ≤ j → β j = β' j) : fS F B n X β' L H := ⟨h.1, h.2.1, fun j hj => by rw [h.2.2 j hj, he j hj]⟩
theorem n_clearBehind (h : fS F B n X β L H) (hE : aE B A β) (ha : aN B A.1) (hi : 0 ≤ i ∧ i < 64) (hs : 0 ≤ s ∧ s ≤ 65535) (hb : s % 64 ≠ 0 → 59 ≤ aBlk A.1 i (s / 64) ∧ aBlk A.1 i (s / 64) < B) (hn : n < 24)
    (h1 : ∀ β' H', fS F B (n + 1) (aBlk A.1 i (s / 64) :: X) β' L H' → aE B (A.1, A.2.1, aClr A.1 A.2.2 i s) β' → Qr 0 (t, L, H')) : zEnds 80 118 0 [(26, 26), (0, i), (0, s), (9, 0), (9, 0)] [] (t, L, H) Qr Qt := by
  obtain ⟨N, O, W⟩ := A
  have hI : eI N β i := hE.1 i hi.1 hi.2
  have hA : aI B N i := ha i hi.1 hi.2
  dsimp only at h1 hb
  unfold aClr at h1
  refine v_118 ?_
  rw [zrem_pos hs.1, zdiv_pos hs.1 (by omega) (by decide)]
  refine ⟨by decide, fun z => ⟨by decide, n_blockOf h hI hA hi (by omega) ⟨by decide, ?_⟩⟩, fun z => ?_⟩
  · rw [if_neg z] at h1
    have hb := hb z
    generalize aBlk N i (s / 64) = b at h1 hb
    have key : ∀ (m : Nat) (a : Int) (G : zHp), s % 64 ≤ a → a + m = 64 → fS F B (n + 1) (b :: X) (bR β (64 * b + s % 64) (64 * b + a)) L G → zEnds 80 118 24 [(26, 26), (9, 0), (9, 0), (0, b), (0, a)] [] (t, L, G) Qr Qt := by
      intro m
      induction m with
      | zero =>
        intro a G a1 a2 g
        refine v_118_24 ⟨fun _ => h1 _ G g ?_, fun y => absurd (by omega) y⟩
        have ea : a = 64 := by omega
        rw [ea]
        refine aE_data hE ha hb.1 (fun j hj => ?_) (fun j hj => ?_) (fun ho k k1 k2 => ?_)
        · unfold bR; rw [if_neg (by omega)]
        · unfold bR; rw [if_neg (by omega)]
        · unfold bR
          by_cases ck : s % 64 ≤ k
          · rw [if_pos (by omega), if_pos (by omega)]
          · rw [if_neg (by omega), if_neg (by omega)]
            exact hE.2.2 b k hb.1 hb.2 ho k1 k2
      | succ m ih =>
        intro a G a1 a2 g
        refine v_118_24 ⟨fun y => by omega, fun _ => i_setByte g (by omega) (by omega) List.mem_cons_self (fun G' g' => ?_)⟩
        rw [z32_id (x := a + 1) (by omega) (by omega)]
        refine ih (a + 1) G' (by omega) (by omega) (g'.eq (fun j hj => ?_))
        unfold bU bR
        by_cases c1 : j = 64 * b + a
        · rw [if_pos c1, if_pos (by omega)]; rfl
        · rw [if_neg c1]
          by_cases c2 : 64 * b + s % 64 ≤ j ∧ j < 64 * b + a
          · rw [if_pos c2, if_pos (by omega)]
          · rw [if_neg c2, if_neg (by omega)]
    refine key (64 - s % 64).toNat (s % 64) H (by omega) (by omega) ((h.more hn).eq (fun j hj => ?_))
    unfold bR
    rw [if_neg (by omega)]
  · rw [if_pos (Classical.not_not.mp z)] at h1
    exact h1 β H (h.more hn) hE
end GIVE
