/-! Climbs from a directory to the root. -/
section CLIMB
variable {d w r : Int} {t : Nat} {L : Int → Int} {H H' G F : zHp} {Qr Qt : Int → zS → Prop} {A : aSt} {x y B n : Int} {X : List Int} {β : Int → Int}
theorem fS.of28 (h : fS F B n X β L H) (e : ∀ q i, q ≠ 28 → H' q i = H q i) : fS F B n X β L H' := by
  obtain ⟨h1, ⟨a1, a2, a3, a4, a5, a6, a7, a8, a9⟩, h3⟩ := h
  have u : iUns H' X = iUns H X := by
    clear a3
    induction X with
    | nil => rfl
    | cons b X ih =>
      show (if H' 23 b = 0 then 1 else 0) + iUns H' X = (if H 23 b = 0 then 1 else 0) + iUns H X
      rw [e 23 b (by decide), ih]
  refine ⟨h1, ⟨fun q i hq => ?_, a2, ?_, ?_, ?_, ?_, ?_, ?_, ?_⟩, fun j hj => ?_⟩
  · rw [e q i (by unfold iFr at hq; omega)]
    exact a1 q i hq
  · rw [e 18 8 (by decide), u]; exact a3
  · intro i i0 i1
    rw [e 18 8 (by decide)] at i1
    rw [e 24 i (by decide)]
    refine ⟨(a4 i i0 i1).1, fun j j0 j1 => ?_⟩
    rw [e 25 _ (by decide)]
    exact (a4 i i0 i1).2 j j0 j1
  · intro b b0 b1 hb
    rw [e 23 b (by decide)] at hb
    obtain ⟨i, i0, i1, i2⟩ := a5 b b0 b1 hb
    exact ⟨i, i0, by rw [e 18 8 (by decide)]; exact i1, by rw [e 24 i (by decide)]; exact i2⟩
  · intro b b0 b1 hb j j0 j1
    rw [e 23 b (by decide)] at hb
    rw [e 19 _ (by decide)]
    exact a6 b b0 b1 hb j j0 j1
  · intro b
    rw [e 22 b (by decide), e 23 b (by decide)]
    exact a7 b
  · intro b b0 b1
    rw [e 22 b (by decide), e 23 b (by decide)]
    exact a8 b b0 b1
  · exact a9.same (fun i => e 19 i (by decide)) (fun z hz => by rw [e 23 z (by decide)]; exact hz)
  · have := h3 j hj
    unfold zB8 at this ⊢
    rw [e 19 _ (by decide)]
    exact this
/-- entries ahead of an entry -/
def eB (d e d' e' : Int) : Prop := d < d' ∨ (d = d' ∧ e < e')
/-- the parents found in the entries ahead of (x, y) -/
def pN (A : aSt) (H : zHp) (x y : Int) : Prop := ∀ j, 0 ≤ j → j < 64 → (H 28 j = -1 ∧ ∀ d e, eB d e x y → aNd A d e → aNo A d e ≠ j) ∨ ∃ d e, eB d e x y ∧ aNd A d e ∧ aNo A d e = j ∧ H 28 j = d
theorem pN.skip {x' y' : Int} (h : pN A H x y) (hs : ∀ d e, aNd A d e → (eB d e x' y' ↔ eB d e x y)) : pN A H x' y' := fun j j0 j1 => by
  rcases h j j0 j1 with ⟨u, v⟩ | ⟨d, e, u1, u2, u3⟩
  · exact Or.inl ⟨u, fun d e w1 w2 => v d e ((hs d e w2).mp w1) w2⟩
  · exact Or.inr ⟨d, e, (hs d e u2).mpr u1, u2, u3⟩
theorem pN.par (h : pN A H x y) (g : aTr A) (hx : ∀ d e, aNd A d e → eB d e x y) {j : Int} (hj : 0 ≤ j ∧ j < 64) : H 28 j = aPar A j := by
  rcases h j hj.1 hj.2 with ⟨u, v⟩ | ⟨d, e, u1, u2, u3, u4⟩
  · rw [u]
    rcases aPar_rg A j with z | ⟨-, e, z1, z2⟩
    · exact z.symm
    · exact absurd z2 (v _ e (hx _ e z1) z1)
  · rw [u4, ← u3, aPar_of g u2]
/-- Tree.noteParent -/
theorem t_noteParent {bi : Int} (h : fS F B n X β L H) (hL : L 28 = 64) (hE : aE B A β) (g : aGood B A) (hx : 0 ≤ x ∧ x < 64) (hk : A.1 (20 * x) = 2) (hb : 0 ≤ bi ∧ 64 * bi < A.1 (20 * x + 1)) (hp : pN A H x (16 * bi))
    (hQ : ∀ H', fS F B n X β L H' → pN A H' x (16 * bi + 16) → Qr 0 (t, L, H')) : zEnds 80 135 0 [(27, 27), (0, x), (0, aBlk A.1 x bi), (9, 0)] [] (t, L, H) Qr Qt := by
  have gb := g.1.s.blk hx hb
  have h64 := (g.1.2 x hx.1 hx.2).2 hk
  have key : ∀ (m : Nat) (e : Int) (H' : zHp), e + m = 16 → 0 ≤ e → fS F B n X β L H' → pN A H' x (16 * bi + e) → zEnds 80 135 2 [(27, 27), (0, x), (0, aBlk A.1 x bi), (0, 4 * e)] [] (t, L, H') Qr Qt := by
    intro m
    induction m with
    | zero =>
      intro e H' he e0 h' hp'
      refine v_135_2 ⟨fun _ => hQ H' h' ?_, fun z => absurd (by omega) z⟩
      rw [show e = 16 by omega] at hp'
      exact hp'
    | succ m ih =>
      intro e H' he e0 h' hp'
      refine v_135_2 ⟨fun z => absurd z (by omega), fun _ => ?_⟩
      rw [z32_id (x := 4 * e + 4) (by omega) (by omega), z32_id (x := 4 * e + 2) (by omega) (by omega)]
      have en : β (64 * aBlk A.1 x bi + 4 * e) + 256 * β (64 * aBlk A.1 x bi + 4 * e + 1) = aNm A x (16 * bi + e) := by
        unfold aNm
        rw [hE.get g.1.s hx hb (by omega), Int.add_assoc (64 * aBlk A.1 x bi), hE.get g.1.s hx hb (by omega), show 64 * bi + 4 * e = 4 * (16 * bi + e) by omega, show 64 * bi + (4 * e + 1) = 4 * (16 * bi + e) + 1 by omega]
      have eo : β (64 * aBlk A.1 x bi + (4 * e + 2)) = aNo A x (16 * bi + e) := by
        unfold aNo
        rw [hE.get g.1.s hx hb (by omega), show 64 * bi + (4 * e + 2) = 4 * (16 * bi + e) + 2 by omega]
      refine i_pairAt h' (by omega) (by omega) ?_
      rw [en]
      refine ⟨fun z => ?_, fun z => i_byteAt h' (by omega) (by omega) ?_⟩
      · have q := ih (e + 1) H' (by omega) (by omega) h' (hp'.skip (fun d' e' u => ⟨fun v => ?_, fun v => ?_⟩))
        · rw [show 4 * (e + 1) = 4 * e + 4 by omega] at q
          exact q
        · rcases v with v | ⟨v1, v2⟩
          · exact Or.inl v
          · by_cases c : e' = 16 * bi + e
            · exfalso
              subst v1
              rw [c] at u
              exact u.2.2.2 z
            · exact Or.inr ⟨v1, by omega⟩
        · rcases v with v | ⟨v1, v2⟩
          · exact Or.inl v
          · exact Or.inr ⟨v1, by omega⟩
      · rw [eo]
        have lv : aNd A x (16 * bi + e) := ⟨hx, hk, ⟨by omega, by omega⟩, z⟩
        have jr := (g.2.2.2.2.2.1 _ _ lv).1
        rw [zrem_pos (by omega), Int.emod_eq_of_lt (by omega) jr.2]
        refine ⟨by decide, ⟨by omega, by show aNo A x (16 * bi + e) < L 28; omega⟩, ?_⟩
        have q := ih (e + 1) (zupd H' 28 (aNo A x (16 * bi + e)) x) (by omega) (by omega) (h'.of28 (fun q i hq => zupd_ne hq)) (fun j j0 j1 => ?_)
        · rw [show 4 * (e + 1) = 4 * e + 4 by omega] at q
          exact q
        · by_cases c : j = aNo A x (16 * bi + e)
          · rw [c, zupd_at]
            exact Or.inr ⟨x, 16 * bi + e, Or.inr ⟨rfl, by omega⟩, lv, rfl, rfl⟩
          · rw [zupd_no (by omega)]
            rcases hp' j j0 j1 with ⟨u, v⟩ | ⟨d', e', u1, u2, u3⟩
            · refine Or.inl ⟨u, fun d' e' w1 w2 => ?_⟩
              by_cases ce : d' = x ∧ e' = 16 * bi + e
              · rw [ce.1, ce.2]; exact fun zz => c zz.symm
              · refine v d' e' ?_ w2
                rcases w1 with w1 | ⟨w1, w3⟩
                · exact Or.inl w1
                · exact Or.inr ⟨w1, by omega⟩
            · refine Or.inr ⟨d', e', ?_, u2, u3⟩
              rcases u1 with u1 | ⟨u1, u4⟩
              · exact Or.inl u1
              · exact Or.inr ⟨u1, by omega⟩
  have q := key 16 0 H (by decide) (by decide) h (by rw [show 16 * bi + 0 = 16 * bi by omega]; exact hp)
  exact v_135 q
/-- Tree.noteParents -/
theorem t_noteParents (h : fS F B n X β L H) (hL : L 28 = 64) (hE : aE B A β) (g : aGood B A) (hQ : ∀ H', fS F B n X β L H' → (∀ j, 0 ≤ j → j < 64 → H' 28 j = aPar A j) → Qr 0 (t, L, H')) : zEnds 80 134 0 [(27, 27), (9, 0), (9, 0), (9, 0)] [] (t, L, H) Qr Qt := by
  have l3 : ∀ (m : Nat) (x : Int) (H' : zHp), x + m = 64 → 0 ≤ x → fS F B n X β L H' → pN A H' x 0 → zEnds 80 134 23 [(27, 27), (0, x), (9, 0), (9, 0)] [] (t, L, H') Qr Qt := by
    intro m
    induction m with
    | zero =>
      intro x H' hx x0 h' hp
      exact v_134_23 ⟨fun _ => hQ H' h' (fun j j0 j1 => hp.par g.2.2.2.2.2 (fun d e u => Or.inl (by have := u.1; omega)) ⟨j0, j1⟩), fun z => absurd (by omega) z⟩
    | succ m ih =>
      intro x H' hx x0 h' hp
      have hxr : 0 ≤ x ∧ x < 64 := by omega
      have hI := hE.1 x hxr.1 hxr.2
      have hA := g.1.1.1 x hxr.1 hxr.2
      have nxt : ∀ (H2 : zHp), fS F B n X β L H2 → (∀ y, (∀ e, aNd A x e → e < y) → pN A H2 x y → zEnds 80 134 23 [(27, 27), (0, z32 (x + 1)), (9, 0), (9, 0)] [] (t, L, H2) Qr Qt) := fun H2 h2 y hy hp2 => by
        rw [z32_id (by omega) (by omega)]
        refine ih (x + 1) H2 (by omega) (by omega) h2 (hp2.skip (fun d e u => ⟨fun v => ?_, fun v => ?_⟩))
        · rcases v with v | ⟨v1, v2⟩
          · by_cases c : d = x
            · subst c
              exact Or.inr ⟨rfl, hy e u⟩
            · exact Or.inl (by omega)
          · have := u.2.2.1.1
            omega
        · rcases v with v | ⟨v1, v2⟩
          · exact Or.inl (by omega)
          · exact Or.inl (by omega)
      refine v_134_23 ⟨fun z => absurd z (by omega), fun _ => n_kind h' hI hxr ⟨fun k2 => ?_, fun k2 => n_size h' hI hxr hA.2.1 ⟨by decide, ?_⟩⟩⟩
      · exact v_134_59 ⟨fun _ => nxt H' h' 0 (fun e u => absurd u.2.1 k2) hp, fun z => absurd (by decide) z⟩
      · have hk : A.1 (20 * x) = 2 := by omega
        have h64 := (g.1.2 x hxr.1 hxr.2).2 hk
        have hs := hA.2.1
        rw [zdiv_pos (by omega) (by omega) (by decide)]
        have l2 : ∀ (m' : Nat) (bi : Int) (H2 : zHp), bi + m' = A.1 (20 * x + 1) / 64 → 0 ≤ bi → fS F B n X β L H2 → pN A H2 x (16 * bi) → zEnds 80 134 59 [(27, 27), (0, x), (0, A.1 (20 * x + 1) / 64), (0, bi)] [] (t, L, H2) Qr Qt := by
          intro m'
          induction m' with
          | zero =>
            intro bi H2 hb b0 h2 hp2
            exact v_134_59 ⟨fun _ => nxt H2 h2 (16 * bi) (fun e u => by have := u.2.2.1.2; omega) hp2, fun z => absurd (by omega) z⟩
          | succ m' ih2 =>
            intro bi H2 hb b0 h2 hp2
            refine v_134_59 ⟨fun z => absurd z (by omega), fun _ => n_blockOf h2 hI hA hxr (by omega) (t_noteParent h2 hL hE g hxr hk ⟨b0, by omega⟩ hp2 (fun H3 h3 hp3 => ?_))⟩
            rw [z32_id (by omega) (by omega)]
            exact ih2 (bi + 1) H3 (by omega) (by omega) h3 (by rw [show 16 * (bi + 1) = 16 * bi + 16 by omega]; exact hp3)
        exact l2 (A.1 (20 * x + 1) / 64).toNat 0 H' (by omega) (by decide) h' hp
  have l1 : ∀ (m : Nat) (x : Int) (H' : zHp), x + m = 64 → 0 ≤ x → fS F B n X β L H' → (∀ j, 0 ≤ j → j < x → H' 28 j = -1) → zEnds 80 134 2 [(27, 27), (0, x), (9, 0), (9, 0)] [] (t, L, H') Qr Qt := by
    intro m
    induction m with
    | zero =>
      intro x H' hx x0 h' hp
      refine v_134_2 ⟨fun _ => l3 64 0 H' (by decide) (by decide) h' (fun j j0 j1 => Or.inl ⟨hp j j0 (by omega), fun d e u v => ?_⟩), fun z => absurd (by omega) z⟩
      rcases u with u | ⟨u1, u2⟩
      · have := v.1.1; omega
      · have := v.2.2.1.1; omega
    | succ m ih =>
      intro x H' hx x0 h' hp
      refine v_134_2 ⟨fun z => absurd z (by omega), fun _ => ⟨⟨x0, by show x < L 28; omega⟩, ?_⟩⟩
      rw [z32_id (by omega) (by omega)]
      refine ih (x + 1) _ (by omega) (by omega) (h'.of28 (fun q i hq => zupd_ne hq)) (fun j j0 j1 => ?_)
      show zupd H' 28 x (-1) 28 j = -1
      by_cases c : j = x
      · rw [c, zupd_at]
      · rw [zupd_no (by omega)]; exact hp j j0 (by omega)
  exact v_134 (l1 64 0 H (by decide) (by decide) h (fun j j0 j1 => by omega))
theorem aUp_stays {to : Int} {k m : Nat} (h : aUp A k to = -1) (hm : k ≤ m) : aUp A m to = -1 := by
  have : ∀ j, aUp A (k + j) to = -1 := by
    intro j
    induction j with
    | zero => exact h
    | succ j ih =>
      show aUp A (k + j + 1) to = -1
      rw [aUp_succ, if_pos ih]
  have z := this (m - k)
  rw [show k + (m - k) = m by omega] at z
  exact z
/-- Tree.comesIntoItself -/
theorem t_comes {mv to : Int} (h : fS F B n X β L H) (hL : L 28 = 64) (hE : aE B A β) (g : aGood B A) (hm : 0 ≤ mv ∧ mv < 64) (ht : 0 ≤ to ∧ to < 64) (h1 : (A.1 (20 * mv) = 2 ∧ ∃ n, aUp A n to = mv) → ∀ H', fS F B n X β L H' → Qr 1 (t, L, H')) (h0 : ¬ (A.1 (20 * mv) = 2 ∧ ∃ n, aUp A n to = mv) → ∀ H', fS F B n X β L H' → Qr 0 (t, L, H')) : zEnds 80 133 0 [(27, 27), (0, mv), (0, to), (9, 0), (9, 0)] [] (t, L, H) Qr Qt := by
  refine v_133 (n_kind h (hE.1 mv hm.1 hm.2) hm ⟨fun k2 => t_noteParents h hL hE g (fun H' h' hp => ?_), fun k2 => ⟨Or.inl rfl, h0 (fun u => k2 u.1) H h⟩⟩)
  have key : ∀ (m k : Nat), k + m = 64 → (∀ j, j < k → aUp A j to ≠ mv) → zEnds 80 133 23 [(27, 27), (0, mv), (9, 0), (0, aUp A k to), (0, (k : Int))] [] (t, L, H') Qr Qt := by
    intro m
    induction m with
    | zero =>
      intro k hk hb
      refine v_133_23 ⟨fun _ => ⟨Or.inl rfl, h0 (fun ⟨_, j, hj⟩ => ?_) H' h'⟩, fun z => absurd (by omega) z⟩
      have := (aUp_short g.2.2.2.2.2 ht (n := j) (by omega)).1
      exact hb j (by omega) hj
    | succ m ih =>
      intro k hk hb
      refine v_133_23 ⟨fun z => absurd z (by omega), fun _ => ⟨fun z => ⟨Or.inl rfl, h0 (fun ⟨_, j, hj⟩ => ?_) H' h'⟩, fun z => ⟨fun ne => ?_, fun e => ⟨Or.inr rfl, h1 ⟨k2, k, Classical.not_not.mp e⟩ H' h'⟩⟩⟩⟩
      · rcases Nat.lt_or_ge j k with u | u
        · exact hb j u hj
        · have := aUp_stays z u
          omega
      · have rg := (aUp_short g.2.2.2.2.2 ht z).2
        refine ⟨⟨rg.1, by show aUp A k to < L 28; omega⟩, ?_⟩
        show zEnds 80 133 23 [(27, 27), (0, mv), (9, 0), (0, H' 28 (aUp A k to)), (0, z32 ((k : Int) + 1))] [] (t, L, H') Qr Qt
        rw [hp _ rg.1 rg.2, z32_id (by omega) (by omega)]
        have q := ih (k + 1) (by omega) (fun j hj => by
          by_cases c : j = k
          · rw [c]; exact ne
          · exact hb j (by omega))
        rw [aUp_succ, if_neg z] at q
        exact q
  exact key 64 0 (by decide) (fun j hj => by omega)
/-- DiskPoolModel.parentOf -/
theorem m_parentOf (h : mA d w r G A L H) (g : aGood B A) (hB : B ≤ 768) (hy : 0 ≤ y ∧ y < 64) (hQ : Qr (aPar A y) (t, L, H)) : zEnds 118 242 0 [(29, 35), (0, y), (9, 0), (9, 0)] [] (t, L, H) Qr Qt := by
  have tr := g.2.2.2.2.2
  have none : (∀ d e, aNd A d e → aNo A d e ≠ y) → Qr (-1) (t, L, H) := fun u => by
    rcases aPar_rg A y with z | ⟨-, e, z1, z2⟩
    · rw [z] at hQ; exact hQ
    · exact absurd z2 (u _ e z1)
  have l1 : ∀ (m : Nat) (x : Int), x + m = 64 → 0 ≤ x → (∀ d e, d < x → aNd A d e → aNo A d e ≠ y) → zEnds 118 242 2 [(29, 35), (0, y), (0, x), (9, 0)] [] (t, L, H) Qr Qt := by
    intro m
    induction m with
    | zero =>
      intro x hx x0 hb
      exact v_242_2 ⟨fun _ => none (fun d e u => hb d e (by have := u.1.2; omega) u), fun z => absurd (by omega) z⟩
    | succ m ih =>
      intro x hx x0 hb
      refine v_242_2 ⟨fun z => absurd z (by omega), fun _ => ⟨fun z => none (fun d e u => ?_), fun z => ?_⟩⟩
      · have := (tr.1 d e u).1
        omega
      · have hxr : 0 ≤ x ∧ x < 64 := by omega
        have hA := g.1.1.1 x hxr.1 hxr.2
        have hs := hA.2.1
        have nxt : (∀ e, aNd A x e → aNo A x e ≠ y) → zEnds 118 242 2 [(29, 35), (0, y), (0, z32 (x + 1)), (9, 0)] [] (t, L, H) Qr Qt := fun hn => by
          rw [z32_id (by omega) (by omega)]
          refine ih (x + 1) (by omega) (by omega) (fun d e hd u => ?_)
          by_cases c : d = x
          · rw [c] at u ⊢; exact hn e u
          · exact hb d e (by omega) u
        by_cases hk : A.1 (20 * x) = 2
        · have l2 : ∀ (m' : Nat) (e : Int), e + m' = A.1 (20 * x + 1) / 4 → 0 ≤ e → (∀ e', e' < e → aNd A x e' → aNo A x e' ≠ y) → zEnds 118 242 14 [(29, 35), (0, y), (0, x), (0, e)] [] (t, L, H) Qr Qt := by
            intro m'
            induction m' with
            | zero =>
              intro e he e0 hb2
              refine v_242_14 (m_kind h hxr ⟨fun z => absurd hk z, fun _ => m_sizeOf h hxr ⟨by decide, ?_⟩⟩)
              rw [zdiv_pos hs.1 (by omega) (by decide)]
              exact ⟨fun _ => nxt (fun e' u => hb2 e' (by have := u.2.2.1.2; omega) u), fun z => absurd (by omega) z⟩
            | succ m' ih2 =>
              intro e he e0 hb2
              have her : 0 ≤ e ∧ e < A.1 (20 * x + 1) / 4 := by omega
              refine v_242_14 (m_kind h hxr ⟨fun z => absurd hk z, fun _ => m_sizeOf h hxr ⟨by decide, ?_⟩⟩)
              rw [zdiv_pos hs.1 (by omega) (by decide), z32_id (x := e + 1) (by omega) (by omega)]
              have stp : (aNd A x e → aNo A x e ≠ y) → zEnds 118 242 14 [(29, 35), (0, y), (0, x), (0, e + 1)] [] (t, L, H) Qr Qt := fun hn => ih2 (e + 1) (by omega) (by omega) (fun e' he' u => by
                by_cases c : e' = e
                · rw [c] at u ⊢; exact hn u
                · exact hb2 e' (by omega) u)
              refine ⟨fun z => absurd z (by omega), fun _ => m_nameAt h g.1.s g.2.1 hB hxr hk her ⟨fun z => stp (fun u => ?_), fun z => ?_⟩⟩
              · have h64 := (g.1.2 x hxr.1 hxr.2).2 hk
                have b1 := g.2.1.get g.1.s hxr (k := 4 * e) (by omega)
                have b2 := g.2.1.get g.1.s hxr (k := 4 * e + 1) (by omega)
                have n0 := u.2.2.2
                unfold aNm at z n0
                omega
              · have lv : aNd A x e := ⟨hxr, hk, her, by omega⟩
                refine m_inodeAt h g.1.s hB hxr hk her ⟨fun z2 => stp (fun _ => z2), fun z2 => ?_⟩
                have e2 := Classical.not_not.mp z2
                have p := aPar_of tr lv
                rw [e2] at p
                rw [p] at hQ
                exact hQ
          exact l2 (A.1 (20 * x + 1) / 4).toNat 0 (by omega) (by decide) (fun e' he' u => by have := u.2.2.1.1; omega)
        · exact v_242_14 (m_kind h hxr ⟨fun _ => nxt (fun e u => absurd u.2.1 hk), fun z => absurd (Classical.not_not.mp z) hk⟩)
  exact v_242 (l1 64 0 (by decide) (by decide) (fun d e hd u => by have := u.1.1; omega))
end CLIMB
