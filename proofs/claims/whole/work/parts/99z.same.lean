/-! Trees that read the same. -/
def aRel (N N' : Int → Int) : Prop := ∀ i, 0 ≤ i → i < 64 → (N' (20 * i) = N (20 * i) ∧ N' (20 * i + 1) = N (20 * i + 1) ∧ N' (20 * i + 2) = N (20 * i + 2)) ∧ ∀ e, 0 ≤ e → e < N (20 * i + 2) → N' (20 * i + 3 + 2 * e) = N (20 * i + 3 + 2 * e) ∧ N' (20 * i + 4 + 2 * e) = N (20 * i + 4 + 2 * e)
section SAME
variable {B : Int} {N N' : Int → Int} {A A' : aSt}
theorem aRel.tot {i : Int} (h : aRel N N') (hi : 0 ≤ i ∧ i < 64) : aTot N' i = aTot N i := by
  obtain ⟨⟨-, -, c⟩, e⟩ := h i hi.1 hi.2
  unfold aTot
  rw [c]
  exact gSum_congr _ _ (fun x x0 x1 => (e x x0 (by omega)).2)
theorem aRel.isin {i b : Int} (h : aRel N N') (hi : 0 ≤ i ∧ i < 64) : aIn N' i b ↔ aIn N i b := by
  obtain ⟨⟨-, -, c⟩, e⟩ := h i hi.1 hi.2
  unfold aIn
  rw [c]
  constructor
  · rintro ⟨x, x0, x1, x2, x3⟩
    obtain ⟨e1, e2⟩ := e x x0 x1
    rw [e1] at x2 x3
    rw [e2] at x3
    exact ⟨x, x0, x1, x2, x3⟩
  · rintro ⟨x, x0, x1, x2, x3⟩
    obtain ⟨e1, e2⟩ := e x x0 x1
    exact ⟨x, x0, x1, by rw [e1]; exact x2, by rw [e1, e2]; exact x3⟩
theorem aRel.blk {i k : Int} (h : aRel N N') (hi : 0 ≤ i ∧ i < 64) : aBlk N' i k = aBlk N i k := by
  obtain ⟨⟨-, -, c⟩, e⟩ := h i hi.1 hi.2
  unfold aBlk
  rw [c]
  exact aBk_congr _ _ _ (fun x x0 x1 => e x x0 (by omega))
theorem aRel.i {i : Int} (h : aRel N N') (hi : 0 ≤ i ∧ i < 64) (ha : aI B N i) : aI B N' i := by
  obtain ⟨⟨c0, c1, c2⟩, e⟩ := h i hi.1 hi.2
  obtain ⟨a1, a2, a3, a4⟩ := ha
  refine ⟨by rw [c0]; exact a1, by rw [c1]; exact a2, by rw [c2]; exact a3, fun x x0 x1 => ?_⟩
  rw [c2] at x1
  obtain ⟨e1, e2⟩ := e x x0 x1
  rw [e1, e2]
  exact a4 x x0 x1
/-- owners and bytes of blocks in use -/
def aSame (B : Int) (A A' : aSt) : Prop := aRel A.1 A'.1 ∧ (∀ b, 0 ≤ b → b < 768 → A'.2.1 b = A.2.1 b) ∧ ∀ b k, 59 ≤ b → b < B → 0 < A.2.1 b → 0 ≤ k → k < 64 → A'.2.2 (64 * b + k) = A.2.2 (64 * b + k)
theorem aSame.get {i k : Int} (h : aSame B A A') (g : aG B A) (hi : 0 ≤ i ∧ i < 64) (hk : 0 ≤ k ∧ k < 64 * aTot A.1 i) : aGet A' i k = aGet A i k := by
  have bi := aBlk_in (g.1.1 i hi.1 hi.2) (k := k / 64) (by omega)
  have rg := aIn_rg (g.1.1 i hi.1 hi.2) bi
  have ow := g.1.2.1 i _ hi.1 hi.2 bi
  unfold aGet aIx
  rw [h.1.blk hi]
  exact h.2.2 _ _ rg.1 rg.2 (by omega) (by omega) (by omega)
theorem aG.room {d e : Int} (g : aG B A) (hd : 0 ≤ d ∧ d < 64) (he : 0 ≤ e ∧ e < A.1 (20 * d + 1) / 4) : 4 * e + 3 < 64 * aTot A.1 d := by
  have := (g.2 d hd.1 hd.2).1
  omega
theorem aSame.nd {d e : Int} (h : aSame B A A') (g : aG B A) : (aNd A' d e ↔ aNd A d e) ∧ (aNd A d e → aNo A' d e = aNo A d e) := by
  have key : (0 ≤ d ∧ d < 64) → (0 ≤ e ∧ e < A.1 (20 * d + 1) / 4) → aNm A' d e = aNm A d e ∧ aNo A' d e = aNo A d e := fun hd he => by
    have rm := g.room hd he
    unfold aNm aNo
    rw [h.get g hd (by omega), h.get g hd (by omega), h.get g hd (by omega)]
    exact ⟨rfl, rfl⟩
  refine ⟨⟨fun u => ?_, fun u => ?_⟩, fun u => (key u.1 u.2.2.1).2⟩
  · obtain ⟨u1, u2, u3, u4⟩ := u
    obtain ⟨⟨c0, c1, c2⟩, -⟩ := h.1 d u1.1 u1.2
    rw [c0] at u2
    rw [c1] at u3
    rw [(key u1 u3).1] at u4
    exact ⟨u1, u2, u3, u4⟩
  · obtain ⟨u1, u2, u3, u4⟩ := u
    obtain ⟨⟨c0, c1, c2⟩, -⟩ := h.1 d u1.1 u1.2
    exact ⟨u1, by rw [c0]; exact u2, by rw [c1]; exact u3, by rw [(key u1 u3).1]; exact u4⟩
theorem aSame.par {j : Int} (h : aSame B A A') (g : aG B A) : aPar A' j = aPar A j := by
  unfold aPar
  refine gFirst_congr _ _ (fun d d0 d1 => ⟨?_, ?_⟩)
  · rintro ⟨e, u, v⟩
    have u' := (h.nd g).1.mp u
    exact ⟨e, u', by rw [← (h.nd g).2 u']; exact v⟩
  · rintro ⟨e, u, v⟩
    exact ⟨e, (h.nd g).1.mpr u, by rw [(h.nd g).2 u]; exact v⟩
theorem aSame.up (h : aSame B A A') (g : aG B A) : ∀ (n : Nat) (j : Int), aUp A' n j = aUp A n j := by
  intro n
  induction n with
  | zero => intro j; rfl
  | succ n ih =>
    intro j
    show aUp A' n _ = aUp A n _
    rw [h.par g, ih]
theorem aSame.good (h : aSame B A A') (hB : B ≤ 768) (g : aGood B A) : aGood B A' := by
  obtain ⟨g1, g2, g3, g4, g5, g6⟩ := g
  obtain ⟨hr, ho, hw⟩ := h
  have hh : aSame B A A' := ⟨hr, ho, hw⟩
  refine ⟨⟨⟨fun i i0 i1 => hr.i ⟨i0, i1⟩ (g1.1.1 i i0 i1), fun i b i0 i1 u => ?_, fun i e e' b i0 i1 e0 e1 e2 e3 b0 b1 b2 b3 => ?_⟩, fun i i0 i1 => ?_⟩, fun b x b0 b1 o x0 x1 => ?_, ⟨fun b b0 b1 => by rw [ho b b0 (by omega)]; exact g3.1 b b0 b1, fun b b0 b1 => ?_⟩, fun i i0 i1 u => ?_, fun i k i0 i1 k0 k1 => ?_, ?_⟩
  · have u' := (hr.isin ⟨i0, i1⟩).mp u
    have rg := aIn_rg (g1.1.1 i i0 i1) u'
    rw [ho b (by omega) (by omega)]
    exact g1.1.2.1 i b i0 i1 u'
  · obtain ⟨⟨-, -, c⟩, ex⟩ := hr i i0 i1
    rw [c] at e1 e3
    obtain ⟨p1, p2⟩ := ex e e0 e1
    obtain ⟨q1, q2⟩ := ex e' e2 e3
    rw [p1] at b0 b1
    rw [p2] at b1
    rw [q1] at b2 b3
    rw [q2] at b3
    exact g1.1.2.2 i e e' b i0 i1 e0 e1 e2 e3 b0 b1 b2 b3
  · obtain ⟨⟨c0, c1, c2⟩, -⟩ := hr i i0 i1
    rw [hr.tot ⟨i0, i1⟩, c0, c1]
    exact g1.2 i i0 i1
  · rw [ho b (by omega) (by omega)] at o
    rw [hw b x b0 b1 o x0 x1]
    exact g2 b x b0 b1 o x0 x1
  · rw [ho b (by omega) b1]
    rcases g3.2 b b0 b1 with u | ⟨u0, i, i0, u1, u2⟩
    · exact Or.inl u
    · exact Or.inr ⟨u0, i, i0, u1, (hr.isin i0).mpr u2⟩
  · obtain ⟨⟨c0, c1, c2⟩, -⟩ := hr i i0 i1
    rw [c0] at u
    rw [c1]
    exact g4 i i0 i1 u
  · obtain ⟨⟨c0, c1, c2⟩, -⟩ := hr i i0 i1
    rw [c1] at k0
    rw [hr.tot ⟨i0, i1⟩] at k1
    have s0 := (g1.1.1 i i0 i1).2.1.1
    rw [hh.get g1 ⟨i0, i1⟩ ⟨by omega, k1⟩]
    exact g5 i k i0 i1 k0 k1
  · refine ⟨fun d e u => ?_, fun d e d' e' u v w => ?_, fun j j0 j1 => ?_⟩
    · have u' := (hh.nd g1).1.mp u
      rw [(hh.nd g1).2 u']
      have q := g6.1 d e u'
      obtain ⟨⟨c0, -, -⟩, -⟩ := hr (aNo A d e) (by omega) q.1.2
      rw [c0]
      exact q
    · have u' := (hh.nd g1).1.mp u
      have v' := (hh.nd g1).1.mp v
      rw [(hh.nd g1).2 u', (hh.nd g1).2 v'] at w
      exact g6.2.1 d e d' e' u' v' w
    · obtain ⟨n, hn⟩ := g6.2.2 j j0 j1
      exact ⟨n, by rw [hh.up g1]; exact hn⟩
/-- bytes that are the tree's encode it -/
theorem aE_of {β V : Int → Int} (g : aGood B A) (hB : 96 ≤ B ∧ B ≤ 768) (h : ∀ b k, 25 ≤ b → b < B → 0 ≤ k → k < 64 → 0 < A.2.1 b → β (64 * b + k) = mBy B A V b k) : aE B A β := by
  have o59 : ∀ b, 25 ≤ b → b < 59 → A.2.1 b = 100 := fun b b0 b1 => g.2.2.1.1 b (by omega) b1
  refine ⟨fun i i0 i1 => ?_, fun b b0 b1 => ?_, fun b k b0 b1 o k0 k1 => ?_⟩
  · have nb : ∀ f, 0 ≤ f → f < 32 → β (1600 + 32 * i + f) = nBy A.1 i f := fun f f0 f1 => by
      have q := h (25 + i / 2) (32 * (i % 2) + f) (by omega) (by omega) (by omega) (by omega) (by rw [o59 _ (by omega) (by omega)]; decide)
      rw [show 64 * (25 + i / 2) + (32 * (i % 2) + f) = 1600 + 32 * i + f by omega] at q
      rw [q]
      unfold mBy
      rw [if_neg (by have := o59 (25 + i / 2) (by omega) (by omega); omega), if_pos (by omega), show 2 * (25 + i / 2 - 25) + (32 * (i % 2) + f) / 32 = i by omega, show (32 * (i % 2) + f) % 32 = f by omega]
    obtain ⟨a1, a2, a3, a4⟩ := g.1.1.1 i i0 i1
    have nx : ∀ e f, 0 ≤ e → e ≤ 8 → (f = 4 + 3 * e ∨ f = 5 + 3 * e ∨ f = 6 + 3 * e) → A.1 (20 * i + 2) ≤ e → nBy A.1 i f = 0 := fun e f e0 e1 ef c => by
      unfold nBy
      rw [if_neg (by omega), if_neg (by omega), if_neg (by omega), if_pos (by omega)]
    refine ⟨?_, ?_, ?_, ?_, ?_, fun e e0 e1 => ⟨fun c => ⟨?_, ?_, ?_⟩, fun c => ⟨?_, ?_, ?_⟩⟩⟩
    · have := nb 0 (by decide) (by decide)
      rw [Int.add_zero] at this
      rw [this]
      rfl
    · rw [nb 1 (by decide) (by decide)]
      rfl
    · rw [nb 2 (by decide) (by decide)]
      show A.1 (20 * i + 1) / 1 % 256 = _
      rw [Int.ediv_one]
    · rw [nb 3 (by decide) (by decide)]
      rfl
    · rw [nb 31 (by decide) (by decide)]
      unfold nBy
      rw [if_neg (by decide), if_neg (by decide), if_neg (by decide), if_pos (by omega)]
    · rw [nb _ (by omega) (by omega)]
      unfold nBy
      rw [if_neg (by omega), if_neg (by omega), if_neg (by omega), if_neg (by omega), if_neg (by omega), show (4 + 3 * e - 4) / 3 = e by omega, show (4 + 3 * e - 4) % 3 = 0 by omega]
      show A.1 (20 * i + 3 + 2 * e) / 1 % 256 = _
      rw [Int.ediv_one]
    · rw [nb _ (by omega) (by omega)]
      unfold nBy
      rw [if_neg (by omega), if_neg (by omega), if_neg (by omega), if_neg (by omega), if_neg (by omega), show (5 + 3 * e - 4) / 3 = e by omega, show (5 + 3 * e - 4) % 3 = 1 by omega]
      rfl
    · rw [nb _ (by omega) (by omega)]
      unfold nBy
      rw [if_neg (by omega), if_neg (by omega), if_neg (by omega), if_neg (by omega), if_pos (by omega), show (6 + 3 * e - 4) / 3 = e by omega]
    · rw [nb _ (by omega) (by omega), nx e _ e0 e1 (by omega) c]
    · rw [nb _ (by omega) (by omega), nx e _ e0 e1 (by omega) c]
    · rw [nb _ (by omega) (by omega), nx e _ e0 e1 (by omega) c]
  · have q := h (57 + b / 512) (b / 8 % 64) (by omega) (by omega) (by omega) (by omega) (by rw [o59 _ (by omega) (by omega)]; decide)
    rw [show 64 * (57 + b / 512) + b / 8 % 64 = 3648 + b / 8 by omega] at q
    unfold mT
    rw [q]
    unfold mBy
    rw [if_neg (by have := o59 (57 + b / 512) (by omega) (by omega); omega), if_neg (by omega), if_pos (by omega), (mMap_bits _ _ _).2 (b % 8).toNat (by omega), show 512 * (57 + b / 512 - 57) + 8 * (b / 8 % 64) + ((b % 8).toNat : Int) = b by omega]
    unfold mBit
    by_cases c : b < B ∧ 0 < A.2.1 b
    · rw [if_pos c]
      exact ⟨fun _ => c, fun _ => rfl⟩
    · rw [if_neg c]
      exact ⟨fun u => absurd u (by decide), fun u => absurd u c⟩
  · rw [h b k (by omega) b1 k0 k1 o]
    unfold mBy
    rw [if_neg (by omega), if_neg (by omega), if_neg (by omega)]
end SAME
