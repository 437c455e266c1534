/-! The inodes: what the image's bytes say of them. -/
/-- the bytes of an inode, out of its twenty numbers -/
def eI (N β : Int → Int) (i : Int) : Prop := β (1600 + 32 * i) = N (20 * i) ∧ β (1600 + 32 * i + 1) = N (20 * i + 2) ∧ β (1600 + 32 * i + 2) = N (20 * i + 1) % 256 ∧ β (1600 + 32 * i + 3) = N (20 * i + 1) / 256 % 256 ∧ β (1600 + 32 * i + 31) = 0 ∧
  ∀ e, 0 ≤ e → e ≤ 8 → (e < N (20 * i + 2) → β (1600 + 32 * i + (4 + 3 * e)) = N (20 * i + 3 + 2 * e) % 256 ∧ β (1600 + 32 * i + (5 + 3 * e)) = N (20 * i + 3 + 2 * e) / 256 % 256 ∧ β (1600 + 32 * i + (6 + 3 * e)) = N (20 * i + 4 + 2 * e)) ∧
    (N (20 * i + 2) ≤ e → β (1600 + 32 * i + (4 + 3 * e)) = 0 ∧ β (1600 + 32 * i + (5 + 3 * e)) = 0 ∧ β (1600 + 32 * i + (6 + 3 * e)) = 0)
def eN (N β : Int → Int) : Prop := ∀ i, 0 ≤ i → i < 64 → eI N β i
/-- an inode's numbers -/
def aI (B : Int) (N : Int → Int) (i : Int) : Prop := (N (20 * i) = 0 ∨ N (20 * i) = 1 ∨ N (20 * i) = 2) ∧ (0 ≤ N (20 * i + 1) ∧ N (20 * i + 1) ≤ 65535) ∧ (0 ≤ N (20 * i + 2) ∧ N (20 * i + 2) ≤ 8) ∧ ∀ e, 0 ≤ e → e < N (20 * i + 2) → 59 ≤ N (20 * i + 3 + 2 * e) ∧ 1 ≤ N (20 * i + 4 + 2 * e) ∧ N (20 * i + 4 + 2 * e) ≤ 255 ∧ N (20 * i + 3 + 2 * e) + N (20 * i + 4 + 2 * e) ≤ B
def aN (B : Int) (N : Int → Int) : Prop := ∀ i, 0 ≤ i → i < 64 → aI B N i
theorem n_home {i : Int} {S : zS} {Qr Qt : Int → zS → Prop} (hi : 0 ≤ i ∧ i < 64) (hQ : Qr (25 + i / 2) S) : zEnds 80 100 0 [(0, i)] [] S Qr Qt := by
  refine v_100 ⟨by decide, ?_⟩
  rw [zdiv_pos hi.1 (by omega) (by decide), z32_id (by omega) (by omega)]
  exact hQ
theorem n_at {i f : Int} {S : zS} {Qr Qt : Int → zS → Prop} (hi : 0 ≤ i ∧ i < 64) (hf : 0 ≤ f ∧ f < 64) (hQ : Qr (32 * (i % 2) + f) S) : zEnds 80 101 0 [(0, i), (0, f)] [] S Qr Qt := by
  refine v_101 ⟨by decide, ?_⟩
  rw [zrem_pos hi.1, z32_id (x := 32 * (i % 2)) (by omega) (by omega), z32_id (by omega) (by omega)]
  exact hQ
theorem n_ix {i f : Int} : 64 * (25 + i / 2) + (32 * (i % 2) + f) = 1600 + 32 * i + f := by omega
section GET
variable {F : zHp} {B n : Int} {X : List Int} {β : Int → Int} {t : Nat} {L : Int → Int} {H : zHp} {Qr Qt : Int → zS → Prop} {i e k s c : Int} {N : Int → Int}
theorem n_kindB (h : fS F B n X β L H) (hi : 0 ≤ i ∧ i < 64) (hQ : Qr (β (1600 + 32 * i)) (t, L, H)) : zEnds 80 102 0 [(26, 26), (0, i)] [] (t, L, H) Qr Qt := by
  have hl := h.1.1
  refine v_102 (n_home hi (n_at hi (by omega) (i_byteAt h (by omega) (by omega) ?_)))
  rw [n_ix, Int.add_zero]
  exact hQ
theorem n_kind (h : fS F B n X β L H) (hE : eI N β i) (hi : 0 ≤ i ∧ i < 64) (hQ : Qr (N (20 * i)) (t, L, H)) : zEnds 80 102 0 [(26, 26), (0, i)] [] (t, L, H) Qr Qt := n_kindB h hi (by rw [hE.1]; exact hQ)
theorem n_count (h : fS F B n X β L H) (hE : eI N β i) (hi : 0 ≤ i ∧ i < 64) (hQ : Qr (N (20 * i + 2)) (t, L, H)) : zEnds 80 103 0 [(26, 26), (0, i)] [] (t, L, H) Qr Qt := by
  have hl := h.1.1
  refine v_103 (n_home hi (n_at hi (by omega) (i_byteAt h (by omega) (by omega) ?_)))
  rw [n_ix, hE.2.1]
  exact hQ
theorem n_size (h : fS F B n X β L H) (hE : eI N β i) (hi : 0 ≤ i ∧ i < 64) (hs : 0 ≤ N (20 * i + 1) ∧ N (20 * i + 1) ≤ 65535) (hQ : Qr (N (20 * i + 1)) (t, L, H)) : zEnds 80 104 0 [(26, 26), (0, i)] [] (t, L, H) Qr Qt := by
  have hl := h.1.1
  refine v_104 (n_home hi (n_at hi (by omega) (i_pairAt h (by omega) (by omega) ?_)))
  rw [n_ix, hE.2.2.1, Int.add_assoc, show (2 : Int) + 1 = 3 from rfl, hE.2.2.2.1, show N (20 * i + 1) % 256 + 256 * (N (20 * i + 1) / 256 % 256) = N (20 * i + 1) by omega]
  exact hQ
theorem n_first (h : fS F B n X β L H) (hE : eI N β i) (hi : 0 ≤ i ∧ i < 64) (he : 0 ≤ e ∧ e < N (20 * i + 2) ∧ e < 8) (hs : 0 ≤ N (20 * i + 3 + 2 * e) ∧ N (20 * i + 3 + 2 * e) ≤ 65535) (hQ : Qr (N (20 * i + 3 + 2 * e)) (t, L, H)) : zEnds 80 105 0 [(26, 26), (0, i), (0, e)] [] (t, L, H) Qr Qt := by
  have hl := h.1.1
  refine v_105 (n_home hi ?_)
  rw [z32_id (x := 3 * e) (by omega) (by omega), z32_id (x := 4 + 3 * e) (by omega) (by omega)]
  refine n_at hi (by omega) (i_pairAt h (by omega) (by omega) ?_)
  have g := (hE.2.2.2.2.2 e he.1 (by omega)).1 he.2.1
  rw [n_ix, g.1, show 1600 + 32 * i + (4 + 3 * e) + 1 = 1600 + 32 * i + (5 + 3 * e) by omega, g.2.1, show N (20 * i + 3 + 2 * e) % 256 + 256 * (N (20 * i + 3 + 2 * e) / 256 % 256) = N (20 * i + 3 + 2 * e) by omega]
  exact hQ
theorem n_len (h : fS F B n X β L H) (hE : eI N β i) (hi : 0 ≤ i ∧ i < 64) (he : 0 ≤ e ∧ e < N (20 * i + 2) ∧ e < 8) (hQ : Qr (N (20 * i + 4 + 2 * e)) (t, L, H)) : zEnds 80 106 0 [(26, 26), (0, i), (0, e)] [] (t, L, H) Qr Qt := by
  have hl := h.1.1
  refine v_106 (n_home hi ?_)
  rw [z32_id (x := 3 * e) (by omega) (by omega), z32_id (x := 6 + 3 * e) (by omega) (by omega)]
  refine n_at hi (by omega) (i_byteAt h (by omega) (by omega) ?_)
  have g := (hE.2.2.2.2.2 e he.1 (by omega)).1 he.2.1
  rw [n_ix, g.2.2]
  exact hQ
theorem n_setExtents (h : fS F B n X β L H) (hi : 0 ≤ i ∧ i < 64) (hX : 25 + i / 2 ∈ X) (hQ : ∀ H', fS F B n X (bU β (1600 + 32 * i + 1) (k % 256)) L H' → Qr 0 (t, L, H')) : zEnds 80 107 0 [(26, 26), (0, i), (0, k)] [] (t, L, H) Qr Qt := by
  have hl := h.1.1
  refine v_107 (n_home hi (n_at hi (by omega) (i_setByte h (by omega) (by omega) hX (fun H' g => ?_))))
  rw [n_ix] at g
  exact hQ H' g
theorem n_setExtent (h : fS F B n X β L H) (hi : 0 ≤ i ∧ i < 64) (he : 0 ≤ e ∧ e < 8) (hs : 0 ≤ s ∧ s ≤ 65535) (hX : 25 + i / 2 ∈ X) (hQ : ∀ H', fS F B n X (bU (bU (bU β (1600 + 32 * i + (4 + 3 * e)) (s % 256)) (1600 + 32 * i + (5 + 3 * e)) (s / 256 % 256)) (1600 + 32 * i + (6 + 3 * e)) (k % 256)) L H' → Qr 0 (t, L, H')) : zEnds 80 108 0 [(26, 26), (0, i), (0, e), (0, s), (0, k)] [] (t, L, H) Qr Qt := by
  have hl := h.1.1
  refine v_108 (n_home hi ?_)
  rw [z32_id (x := 3 * e) (by omega) (by omega), z32_id (x := 4 + 3 * e) (by omega) (by omega), z32_id (x := 6 + 3 * e) (by omega) (by omega)]
  refine n_at hi (by omega) (i_setPair h (by omega) (by omega) (by omega) hX (fun H1 g => n_home hi (n_at hi (by omega) (i_setByte g (by omega) (by omega) hX (fun H' g' => ?_)))))
  rw [n_ix, n_ix, show 1600 + 32 * i + (4 + 3 * e) + 1 = 1600 + 32 * i + (5 + 3 * e) by omega] at g'
  exact hQ H' g'
theorem n_setSize (h : fS F B n X β L H) (hi : 0 ≤ i ∧ i < 64) (hs : 0 ≤ s ∧ s ≤ 65535) (hX : 25 + i / 2 ∈ X) (hQ : ∀ H', fS F B n X (bU (bU β (1600 + 32 * i + 2) (s % 256)) (1600 + 32 * i + 3) (s / 256 % 256)) L H' → Qr 0 (t, L, H')) : zEnds 80 109 0 [(26, 26), (0, i), (0, s)] [] (t, L, H) Qr Qt := by
  have hl := h.1.1
  refine v_109 (n_home hi (n_at hi (by omega) (i_setPair h (by omega) (by omega) (by omega) hX (fun H' g => ?_))))
  rw [n_ix, show 1600 + 32 * i + 2 + 1 = 1600 + 32 * i + 3 by omega] at g
  exact hQ H' g
theorem n_setKind (h : fS F B n X β L H) (hi : 0 ≤ i ∧ i < 64) (hX : 25 + i / 2 ∈ X) (hQ : ∀ H', fS F B n X (bU β (1600 + 32 * i) (k % 256)) L H' → Qr 0 (t, L, H')) : zEnds 80 110 0 [(26, 26), (0, i), (0, k)] [] (t, L, H) Qr Qt := by
  have hl := h.1.1
  refine v_110 (n_home hi (n_at hi (by omega) (i_setByte h (by omega) (by omega) hX (fun H' g => ?_))))
  rw [n_ix, Int.add_zero] at g
  exact hQ H' g
theorem n_leastFree (h : fS F B n X β L H) (hE : eN N β) (hQ : Qr (gFirst (fun i => N (20 * i) = 0) 0 64) (t, L, H)) : zEnds 80 111 0 [(26, 26), (9, 0)] [] (t, L, H) Qr Qt := by
  have key : ∀ (m : Nat) (i : Int), 0 ≤ i → i + m = 64 → Qr (gFirst (fun i => N (20 * i) = 0) i m) (t, L, H) → zEnds 80 111 2 [(26, 26), (0, i)] [] (t, L, H) Qr Qt := by
    intro m
    induction m with
    | zero =>
      intro i i1 i2 hq
      exact v_111_2 ⟨fun _ => hq, fun z => absurd (by omega) z⟩
    | succ m ih =>
      intro i i1 i2 hq
      refine v_111_2 ⟨fun z => by omega, fun _ => n_kind h (hE i i1 (by omega)) (by omega) ⟨fun y => ?_, fun y => ?_⟩⟩
      · rw [gFirst_no (P := fun i => N (20 * i) = 0) y] at hq
        rw [z32_id (x := i + 1) (by omega) (by omega)]
        exact ih (i + 1) (by omega) (by omega) hq
      · rw [gFirst_yes (P := fun i => N (20 * i) = 0) (Classical.not_not.mp y)] at hq
        exact hq
  exact v_111 (key 64 0 (by omega) (by omega) hQ)
theorem n_countFree (h : fS F B n X β L H) (hE : eN N β) (hQ : Qr (gCnt (fun i => N (20 * i) = 0) 0 64) (t, L, H)) : zEnds 80 112 0 [(26, 26), (9, 0), (9, 0)] [] (t, L, H) Qr Qt := by
  have key : ∀ (m : Nat) (c i : Int), 0 ≤ i → i + m = 64 → 0 ≤ c → c ≤ i → Qr (c + gCnt (fun i => N (20 * i) = 0) i m) (t, L, H) → zEnds 80 112 4 [(26, 26), (0, c), (0, i)] [] (t, L, H) Qr Qt := by
    intro m
    induction m with
    | zero =>
      intro c i i1 i2 c1 c2 hq
      refine v_112_4 ⟨fun _ => ?_, fun z => absurd (by omega) z⟩
      have e : c + gCnt (fun i => N (20 * i) = 0) i 0 = c := by show c + 0 = c; omega
      rw [e] at hq
      exact hq
    | succ m ih =>
      intro c i i1 i2 c1 c2 hq
      refine v_112_4 ⟨fun z => by omega, fun _ => n_kind h (hE i i1 (by omega)) (by omega) ⟨fun y => ?_, fun y => ?_⟩⟩
      · rw [gCnt_no (P := fun i => N (20 * i) = 0) y] at hq
        rw [z32_id (x := i + 1) (by omega) (by omega), z32_id (x := c + 0) (by omega) (by omega)]
        exact ih (c + 0) (i + 1) (by omega) (by omega) (by omega) (by omega) (by rw [show c + 0 = c by omega]; exact hq)
      · rw [gCnt_yes (P := fun i => N (20 * i) = 0) (Classical.not_not.mp y), ← Int.add_assoc] at hq
        rw [z32_id (x := i + 1) (by omega) (by omega), z32_id (x := c + 1) (by omega) (by omega)]
        exact ih (c + 1) (i + 1) (by omega) (by omega) (by omega) (by omega) hq
  refine v_112 (key 64 0 0 (by omega) (by omega) (by omega) (by omega) ?_)
  rw [Int.zero_add]
  exact hQ
end GET
/-- the block of an inode's bytes from 64 * k on -/
def aBk (N : Int → Int) (i : Int) : Nat → Int → Int → Int
  | 0, _, _ => 25
  | m + 1, e, k => if k < N (20 * i + 4 + 2 * e) then N (20 * i + 3 + 2 * e) + k else aBk N i m (e + 1) (k - N (20 * i + 4 + 2 * e))
def aBlk (N : Int → Int) (i k : Int) : Int := aBk N i (N (20 * i + 2)).toNat 0 k
theorem n_blockOf {F : zHp} {B n : Int} {X : List Int} {β : Int → Int} {t : Nat} {L : Int → Int} {H : zHp} {Qr Qt : Int → zS → Prop} {i k : Int} {N : Int → Int} (h : fS F B n X β L H) (hE : eI N β i) (ha : aI B N i) (hi : 0 ≤ i ∧ i < 64) (hk : 0 ≤ k ∧ k ≤ 2000) (hQ : Qr (aBlk N i k) (t, L, H)) : zEnds 80 113 0 [(26, 26), (0, i), (0, k), (9, 0), (9, 0), (9, 0), (9, 0)] [] (t, L, H) Qr Qt := by
  have hl := h.1.1
  have hc := ha.2.2.1
  have key : ∀ (m : Nat) (e k : Int), 0 ≤ e → e + m = N (20 * i + 2) → 0 ≤ k → k ≤ 2000 → Qr (aBk N i m e k) (t, L, H) → zEnds 80 113 12 [(26, 26), (0, i), (9, 0), (0, k), (0, N (20 * i + 2)), (0, e), (9, 0)] [] (t, L, H) Qr Qt := by
    intro m
    induction m with
    | zero =>
      intro e k e1 e2 k1 k2 hq
      exact v_113_12 ⟨fun _ => hq, fun z => absurd (by omega) z⟩
    | succ m ih =>
      intro e k e1 e2 k1 k2 hq
      have g := ha.2.2.2 e e1 (by omega)
      unfold aBk at hq
      refine v_113_12 ⟨fun z => by omega, fun _ => n_len h hE hi (by omega) ⟨fun y => ?_, fun y => n_first h hE hi (by omega) (by omega) ?_⟩⟩
      · rw [if_neg (by omega)] at hq
        rw [z32_id (x := k - N (20 * i + 4 + 2 * e)) (by omega) (by omega), z32_id (x := e + 1) (by omega) (by omega)]
        exact ih (e + 1) _ (by omega) (by omega) (by omega) (by omega) hq
      · rw [if_pos (by omega)] at hq
        rw [z32_id (by omega) (by omega)]
        exact hq
  exact v_113 (n_count h hE hi (key (N (20 * i + 2)).toNat 0 k (by omega) (by omega) hk.1 hk.2 hQ))
