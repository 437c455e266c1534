/-! The image: the map, what is changed, undoing. -/
def mU (β : Int → Int) (b v : Int) : Int → Int := bU β (3648 + b / 8) (zbit (β (3648 + b / 8)) (b % 8) v)
theorem mT_mU {β : Int → Int} {b b' v : Int} (hβ : 0 ≤ β (3648 + b / 8) ∧ β (3648 + b / 8) < 256) (hb : 0 ≤ b) (hb' : 0 ≤ b') (hv : v = 0 ∨ v = 1) : mT (mU β b v) b' ↔ if b' = b then v = 1 else mT β b' := by
  have h1 := (zbit_at hβ (k := b % 8) (by omega) hv).2 (b' % 8).toNat (by omega)
  unfold mT mU bU
  by_cases c : b' / 8 = b / 8
  · rw [if_pos (by omega), h1, c]
    by_cases c2 : b' = b
    · rw [if_pos (by omega), if_pos c2]
    · rw [if_neg (by omega), if_neg c2]
  · rw [if_neg (by omega), if_neg (by omega)]
theorem i_isTaken {F : zHp} {B n b : Int} {X : List Int} {β : Int → Int} {t : Nat} {L : Int → Int} {H : zHp} {Qr Qt : Int → zS → Prop} (h : fS F B n X β L H) (hb : 0 ≤ b ∧ b < B) (h1 : mT β b → Qr 1 (t, L, H)) (h0 : ¬ mT β b → Qr 0 (t, L, H)) : zEnds 80 83 0 [(25, 18), (0, b), (9, 0)] [] (t, L, H) Qr Qt := by
  have hl0 := h.1.1
  refine v_83 ?_
  rw [zdiv_pos hb.1 (by omega) (by decide), zdiv_pos hb.1 (by omega) (by decide), zrem_pos (by omega), zrem_pos hb.1, z32_id (x := 57 + b / 512) (by omega) (by omega)]
  refine ⟨by decide, by decide, by decide, i_byteAt h (by omega) (by omega) ⟨by decide, ?_⟩⟩
  have e : 64 * (57 + b / 512) + b / 8 % 64 = 3648 + b / 8 := by omega
  have e2 := zbit_is (o := β (3648 + b / 8)) (k := b % 8) (j := (b % 8).toNat) (h.rg _ (by omega)) (by omega) (by omega)
  rw [e, e2]
  unfold mT at h1 h0
  refine ⟨fun z => ⟨Or.inl rfl, h0 z⟩, fun z => ⟨Or.inr rfl, h1 (Classical.not_not.mp z)⟩⟩
theorem i_setTakenE {F : zHp} {B n b v : Int} {X : List Int} {β : Int → Int} {t : Nat} {L : Int → Int} {H : zHp} {Qr Qt : Int → zS → Prop} (h : fS F B n X β L H) (hb : 0 ≤ b ∧ b < B) (hv : v = 0 ∨ v = 1) (hX : 57 + b / 512 ∈ X) (hQ : ∀ H', iTe (if v = 1 then b else -1) F B n X H' → (∀ j, 0 ≤ j → zB8 H' 19 j = mU β b v j) → Qr 0 (t, L, H')) : zEnds 80 84 0 [(25, 18), (0, b), (0, v), (9, 0), (9, 0), (9, 0), (9, 0)] [] (t, L, H) Qr Qt := by
  have hl0 := h.1.1
  have hl1 := h.1.2.1
  refine v_84 ?_
  rw [zdiv_pos hb.1 (by omega) (by decide), zdiv_pos hb.1 (by omega) (by decide), zrem_pos (by omega), zrem_pos hb.1, z32_id (x := 57 + b / 512) (by omega) (by omega)]
  have e : 64 * (57 + b / 512) + b / 8 % 64 = 3648 + b / 8 := by omega
  refine ⟨by decide, by decide, by decide, by decide, i_byteAt h (by omega) (by omega) (i_touch h.1 h.2.1 (by omega) hX (fun H1 g1 g2 g3 => ?_))⟩
  have g := h.same g1 g3
  rw [e, z32_id (x := 8 * (57 + b / 512)) (by omega) (by omega)]
  have zr := (zbit_at (h.rg (3648 + b / 8) (by omega)) (k := b % 8) (by omega) hv).1
  have fin : ∀ y, y = zbit (β (3648 + b / 8)) (b % 8) v → zEnds 80 1 0 [(11, 19), (0, 8 * (57 + b / 512)), (0, b / 8 % 64), (0, y), (9, 0), (9, 0), (9, 0)] [] (t, L, H1) (fun v3 S3 => Qr 0 S3) Qt := by
    intro y hy
    refine s_setOne (by omega) (by omega) (by show 8 * (8 * (57 + b / 512)) + b / 8 % 64 < 8 * L 19; omega) (by show L 19 ≤ 1000000; omega) ?_
    have hw : ∀ i, ¬ (8 * (57 + b / 512) ≤ i ∧ i < 8 * (57 + b / 512) + 8) → zupB H1 19 (3648 + b / 8) y 19 i = H1 19 i := fun i hi => by
      unfold zupB
      exact zupd_no (fun u => hi (by omega))
    have nb : ∀ j, 0 ≤ j → zB8 (zupB H1 19 (3648 + b / 8) y) 19 j = mU β b v j := fun j hj => by
      rw [zB8_set (by omega) hj]
      unfold mU bU
      by_cases c : j = 3648 + b / 8
      · rw [if_pos ⟨rfl, c⟩, if_pos c, hy]
        omega
      · rw [if_neg (fun u => c u.2), if_neg c]
        exact g.2.2 j hj
    have hN : nT (-1) F H1 := g.2.1.2.2.2.2.2.2.2.2
    rw [show 8 * (8 * (57 + b / 512)) + b / 8 % 64 = 3648 + b / 8 by omega]
    refine hQ _ (iTe.wr (e := -1) g.2.1 g2 (fun q i hq => zupB_ne hq) hw (fun x x0 x1 xe u => ?_)) nb
    have u2 : mT (mU β b v) x := by
      unfold mT at u ⊢
      rw [nb _ (by omega)] at u
      exact u
    rw [mT_mU (h.rg _ (by omega)) hb.1 (by omega) hv] at u2
    have u3 : mT (zB8 H1 19) x := by
      by_cases c : x = b
      · rw [if_pos c] at u2
        rw [if_pos u2] at xe
        exact absurd c xe
      · rw [if_neg c] at u2
        unfold mT at u2 ⊢
        rw [g.2.2 _ (by omega)]
        exact u2
    exact (hN x x0 x1 (by omega) u3).imp (fun z => z) (fun z => by rw [zupB_ne (by decide)]; exact z)
  refine ⟨fun z => fin _ ?_, fun z => fin _ ?_⟩
  · unfold zbit; rw [if_pos z]
  · unfold zbit; rw [if_neg z]
theorem i_setTaken {F : zHp} {B n b v : Int} {X : List Int} {β : Int → Int} {t : Nat} {L : Int → Int} {H : zHp} {Qr Qt : Int → zS → Prop} (h : fS F B n X β L H) (hb : 0 ≤ b ∧ b < B) (hv : v = 0 ∨ v = 1) (hX : 57 + b / 512 ∈ X) (hQ : ∀ H', fS F B n X (mU β b v) L H' → Qr 0 (t, L, H')) (hs : v = 0 ∨ b < 59 := by omega) : zEnds 80 84 0 [(25, 18), (0, b), (0, v), (9, 0), (9, 0), (9, 0), (9, 0)] [] (t, L, H) Qr Qt := by
  refine i_setTakenE h hb hv hX (fun H' g1 g2 => hQ H' ⟨h.1, g1.all (Or.inl ?_), g2⟩)
  by_cases c : v = 1
  · rw [if_pos c]; omega
  · rw [if_neg c]; decide
theorem zB8_fil {H : zHp} {b j : Int} : zB8 (zfil H 19 (8 * b) 8) 19 j = if 64 * b ≤ j ∧ j < 64 * b + 64 then 0 else zB8 H 19 j := by
  unfold zB8 zfil
  by_cases c : 64 * b ≤ j ∧ j < 64 * b + 64
  · rw [if_pos ⟨rfl, by omega⟩, if_pos c]
    have e : (0 : Int) % 18446744073709551616 = 0 := rfl
    rw [e, Int.zero_ediv]
    rfl
  · rw [if_neg (fun u => c (by omega)), if_neg c]
theorem i_take {F : zHp} {B n b : Int} {X : List Int} {β : Int → Int} {t : Nat} {L : Int → Int} {H : zHp} {Qr Qt : Int → zS → Prop} (h : fS F B n X β L H) (hb : 0 ≤ b ∧ b < B) (hX : 57 + b / 512 ∈ X) (hX2 : b ∈ X) (hQ : ∀ H', fS F B n X (bZ (mU β b 1) b) L H' → Qr 0 (t, L, H')) : zEnds 80 85 0 [(25, 18), (0, b)] [] (t, L, H) Qr Qt := by
  have hl0 := h.1.1
  have hl1 := h.1.2.1
  refine v_85 (i_setTakenE h hb (Or.inr rfl) hX (fun H1 ga gb => i_touch h.1 ga hb hX2 (fun H2 g1 g2 g3 => ?_)))
  have g4 : fS F B n X (mU β b 1) L H2 := ⟨h.1, g1.all (Or.inr (by rw [if_pos rfl]; exact g2)), fun j hj => by
    rw [← gb j hj]
    unfold zB8
    rw [g3]⟩
  rw [z32_id (x := 8 * b) (by omega) (by omega)]
  refine s_clear (by omega) (by decide) (by omega) (by omega) ?_
  have hw : ∀ i, ¬ (8 * b ≤ i ∧ i < 8 * b + 8) → zfil H2 19 (8 * b) 8 19 i = H2 19 i := fun i hi => by
    unfold zfil
    rw [if_neg (fun u => hi u.2)]
  have hN : nT (-1) F H2 := g4.2.1.2.2.2.2.2.2.2.2
  refine hQ _ ⟨g4.1, iTe.wr (e := -1) g4.2.1 g2 (fun q i hq => zfil_ne hq) hw (fun x x0 x1 xe u => ?_), fun j hj => ?_⟩
  · have u' : mT (zB8 H2 19) x := by
      unfold mT at u ⊢
      rw [zB8_fil] at u
      by_cases c : 64 * b ≤ 3648 + x / 8 ∧ 3648 + x / 8 < 64 * b + 64
      · rw [if_pos c, Int.zero_ediv] at u
        exact absurd u (by decide)
      · rw [if_neg c] at u
        exact u
    exact (hN x x0 x1 xe u').imp (fun z => z) (fun z => by rw [zfil_ne (by decide)]; exact z)
  · rw [zB8_fil, g4.2.2 j hj]
    rfl
theorem i_giveBack {F : zHp} {B n b : Int} {X : List Int} {β : Int → Int} {t : Nat} {L : Int → Int} {H : zHp} {Qr Qt : Int → zS → Prop} (h : fS F B n X β L H) (hb : 0 ≤ b ∧ b < B) (hX : 57 + b / 512 ∈ X) (hQ : ∀ H', fS F B n X (mU β b 0) L H' → Qr 0 (t, L, H')) : zEnds 80 86 0 [(25, 18), (0, b)] [] (t, L, H) Qr Qt := v_86 (i_setTaken h hb (Or.inl rfl) hX hQ)
theorem fS.num {F : zHp} {B n : Int} {X : List Int} {β : Int → Int} {L : Int → Int} {H : zHp} (h : fS F B n X β L H) : H 18 1 = B := by
  rw [h.2.1.1 18 1 (by unfold iFr; omega)]
  exact h.2.1.2.1
theorem i_isFree {F : zHp} {B n b : Int} {X : List Int} {β : Int → Int} {t : Nat} {L : Int → Int} {H : zHp} {Qr Qt : Int → zS → Prop} (h : fS F B n X β L H) (hb : 0 ≤ b) (h1 : b < B → ¬ mT β b → Qr 1 (t, L, H)) (h0 : ¬ (b < B ∧ ¬ mT β b) → Qr 0 (t, L, H)) : zEnds 80 87 0 [(25, 18), (0, b)] [] (t, L, H) Qr Qt := by
  have hn := h.num
  refine v_87 ⟨fun z => ⟨Or.inl rfl, h0 (fun u => ?_)⟩, fun z => ?_⟩
  · have z : H 18 1 ≤ b := z
    omega
  · have z : ¬ H 18 1 ≤ b := z
    exact i_isTaken h (by omega) (fun y => ⟨fun _ => ⟨Or.inl rfl, h0 (fun u => u.2 y)⟩, fun u => absurd (by decide) u⟩) (fun y => ⟨fun u => absurd rfl u, fun _ => ⟨Or.inr rfl, h1 (by omega) y⟩⟩)
theorem i_leastFree {F : zHp} {B n : Int} {X : List Int} {β : Int → Int} {t : Nat} {L : Int → Int} {H : zHp} {Qr Qt : Int → zS → Prop} (h : fS F B n X β L H) (hQ : Qr (gFirst (fun b => ¬ mT β b) 59 (B - 59).toNat) (t, L, H)) : zEnds 80 88 0 [(25, 18), (9, 0)] [] (t, L, H) Qr Qt := by
  have hn := h.num
  have hl0 := h.1.1
  have key : ∀ (k : Nat) (b : Int), 59 ≤ b → b + k = B → Qr (gFirst (fun b => ¬ mT β b) b k) (t, L, H) → zEnds 80 88 3 [(25, 18), (0, b)] [] (t, L, H) Qr Qt := by
    intro k
    induction k with
    | zero =>
      intro b b1 b2 hq
      exact v_88_3 ⟨fun _ => hq, fun z => absurd (by show H 18 1 ≤ b; omega) z⟩
    | succ k ih =>
      intro b b1 b2 hq
      refine v_88_3 ⟨fun z => absurd z (by show ¬ H 18 1 ≤ b; omega), fun _ => i_isTaken h (by omega) (fun y => ⟨fun _ => ?_, fun u => absurd (by decide) u⟩) (fun y => ⟨fun u => absurd rfl u, fun _ => ?_⟩)⟩
      · rw [gFirst_no (P := fun b => ¬ mT β b) (fun u => u y)] at hq
        rw [z32_id (x := b + 1) (by omega) (by omega)]
        exact ih (b + 1) (by omega) (by omega) hq
      · rw [gFirst_yes (P := fun b => ¬ mT β b) y] at hq
        exact hq
  exact v_88 (key (B - 59).toNat 59 (by omega) (by omega) hQ)
theorem i_countFree {F : zHp} {B n : Int} {X : List Int} {β : Int → Int} {t : Nat} {L : Int → Int} {H : zHp} {Qr Qt : Int → zS → Prop} (h : fS F B n X β L H) (hQ : Qr (gCnt (fun b => ¬ mT β b) 59 (B - 59).toNat) (t, L, H)) : zEnds 80 89 0 [(25, 18), (9, 0), (9, 0)] [] (t, L, H) Qr Qt := by
  have hn := h.num
  have hl0 := h.1.1
  have key : ∀ (k : Nat) (c b : Int), 59 ≤ b → b + k = B → 0 ≤ c → c ≤ b → Qr (c + gCnt (fun b => ¬ mT β b) b k) (t, L, H) → zEnds 80 89 5 [(25, 18), (0, c), (0, b)] [] (t, L, H) Qr Qt := by
    intro k
    induction k with
    | zero =>
      intro c b b1 b2 c1 c2 hq
      refine v_89_5 ⟨fun _ => ?_, fun z => absurd (by show H 18 1 ≤ b; omega) z⟩
      have e : c + gCnt (fun b => ¬ mT β b) b 0 = c := by show c + 0 = c; omega
      rw [e] at hq
      exact hq
    | succ k ih =>
      intro c b b1 b2 c1 c2 hq
      refine v_89_5 ⟨fun z => absurd z (by show ¬ H 18 1 ≤ b; omega), fun _ => i_isTaken h (by omega) (fun y => ⟨fun u => absurd u (by decide), fun _ => ?_⟩) (fun y => ⟨fun _ => ?_, fun u => absurd rfl u⟩)⟩
      · rw [gCnt_no (P := fun b => ¬ mT β b) (fun u => u y)] at hq
        rw [z32_id (x := b + 1) (by omega) (by omega), z32_id (x := c + 0) (by omega) (by omega)]
        exact ih (c + 0) (b + 1) (by omega) (by omega) (by omega) (by omega) (by rw [show c + 0 = c by omega]; exact hq)
      · rw [gCnt_yes (P := fun b => ¬ mT β b) y, ← Int.add_assoc] at hq
        rw [z32_id (x := b + 1) (by omega) (by omega), z32_id (x := c + 1) (by omega) (by omega)]
        exact ih (c + 1) (b + 1) (by omega) (by omega) (by omega) (by omega) hq
  refine v_89 (key (B - 59).toNat 0 59 (by omega) (by omega) (by omega) (by omega) ?_)
  rw [Int.zero_add]
  exact hQ
/-- Image.areSame -/
theorem i_areSame {a f c g : Int} {S : zS} {Qr Qt : Int → zS → Prop} (hf : 0 ≤ f ∧ f + 8 ≤ S.2.1 a ∧ f ≤ 1000000) (hg : 0 ≤ g ∧ g + 8 ≤ S.2.1 c ∧ g ≤ 1000000) (h1 : (∀ j, 0 ≤ j → j < 8 → S.2.2 a (f + j) = S.2.2 c (g + j)) → Qr 1 S) (h0 : (∃ j, 0 ≤ j ∧ j < 8 ∧ S.2.2 a (f + j) ≠ S.2.2 c (g + j)) → Qr 0 S) : zEnds 80 91 0 [(11, a), (0, f), (11, c), (0, g), (9, 0)] [] S Qr Qt := by
  have key : ∀ (k : Nat) (i : Int), 0 ≤ i → i + k = 8 → (∀ j, 0 ≤ j → j < i → S.2.2 a (f + j) = S.2.2 c (g + j)) → zEnds 80 91 3 [(11, a), (0, f), (11, c), (0, g), (0, i)] [] S Qr Qt := by
    intro k
    induction k with
    | zero =>
      intro i i1 i2 hall
      exact v_91_3 ⟨fun _ => ⟨Or.inr rfl, h1 (fun j j1 j2 => hall j j1 (by omega))⟩, fun z => absurd (by omega) z⟩
    | succ k ih =>
      intro i i1 i2 hall
      refine v_91_3 ⟨fun z => by omega, fun _ => ?_⟩
      rw [z32_id (x := f + i) (by omega) (by omega), z32_id (x := g + i) (by omega) (by omega), z32_id (x := i + 1) (by omega) (by omega)]
      refine ⟨by omega, by omega, fun z => ih (i + 1) (by omega) (by omega) (fun j j1 j2 => ?_), fun z => ⟨Or.inl rfl, h0 ⟨i, i1, by omega, fun u => z (zcmp_0.mpr u)⟩⟩⟩
      by_cases e : j = i
      · rw [e]; exact zcmp_0.mp z
      · exact hall j j1 (by omega)
  exact v_91 (key 8 0 (by omega) (by omega) (fun j j1 j2 => by omega))
/-- a block is changed -/
def iCh (β : Int → Int) (H : zHp) (b : Int) : Prop := H 22 b ≠ 0 ∧ mT β b ∧ ∃ j, 0 ≤ j ∧ j < 8 ∧ H 19 (8 * b + j) ≠ H 20 (8 * b + j)
theorem i_isChanged {F : zHp} {B n b : Int} {X : List Int} {β : Int → Int} {t : Nat} {L : Int → Int} {H : zHp} {Qr Qt : Int → zS → Prop} (h : fS F B n X β L H) (hb : 0 ≤ b ∧ b < B) (h1 : iCh β H b → Qr 1 (t, L, H)) (h0 : ¬ iCh β H b → Qr 0 (t, L, H)) : zEnds 80 90 0 [(25, 18), (0, b)] [] (t, L, H) Qr Qt := by
  obtain ⟨hl0, hl19, hl20, -, hl22, -⟩ := h.1
  refine v_90 ⟨by show 0 ≤ b ∧ b < L 22; omega, fun z => ⟨Or.inl rfl, h0 (fun u => u.1 z)⟩, fun z => i_isTaken h hb (fun y => ⟨fun u => absurd u (by decide), fun _ => ?_⟩) (fun y => ⟨fun _ => ⟨Or.inl rfl, h0 (fun u => y u.2.1)⟩, fun u => absurd rfl u⟩)⟩
  rw [z32_id (x := 8 * b) (by omega) (by omega)]
  refine i_areSame ⟨by omega, by show 8 * b + 8 ≤ L 19; omega, by omega⟩ ⟨by omega, by show 8 * b + 8 ≤ L 20; omega, by omega⟩ (fun u => ⟨fun _ => ⟨Or.inl rfl, h0 (fun v => ?_)⟩, fun v => absurd (by decide) v⟩) (fun u => ⟨fun v => absurd rfl v, fun _ => ⟨Or.inr rfl, h1 ⟨z, y, u⟩⟩⟩)
  obtain ⟨j, j1, j2, j3⟩ := v.2.2
  exact j3 (u j j1 j2)
theorem i_countChanged {F : zHp} {B n : Int} {X : List Int} {β : Int → Int} {t : Nat} {L : Int → Int} {H : zHp} {Qr Qt : Int → zS → Prop} (h : fS F B n X β L H) (hQ : Qr (gCnt (iCh β H) 25 (B - 25).toNat) (t, L, H)) : zEnds 80 92 0 [(25, 18), (9, 0), (9, 0)] [] (t, L, H) Qr Qt := by
  have hn := h.num
  have hl0 := h.1.1
  have key : ∀ (k : Nat) (c b : Int), 25 ≤ b → b + k = B → 0 ≤ c → c ≤ b → Qr (c + gCnt (iCh β H) b k) (t, L, H) → zEnds 80 92 5 [(25, 18), (0, c), (0, b)] [] (t, L, H) Qr Qt := by
    intro k
    induction k with
    | zero =>
      intro c b b1 b2 c1 c2 hq
      refine v_92_5 ⟨fun _ => ?_, fun z => absurd (by show H 18 1 ≤ b; omega) z⟩
      have e : c + gCnt (iCh β H) b 0 = c := by show c + 0 = c; omega
      rw [e] at hq
      exact hq
    | succ k ih =>
      intro c b b1 b2 c1 c2 hq
      refine v_92_5 ⟨fun z => absurd z (by show ¬ H 18 1 ≤ b; omega), fun _ => i_isChanged h (by omega) (fun y => ⟨fun u => absurd u (by decide), fun _ => ?_⟩) (fun y => ⟨fun _ => ?_, fun u => absurd rfl u⟩)⟩
      · rw [gCnt_yes (P := iCh β H) y, ← Int.add_assoc] at hq
        rw [z32_id (x := b + 1) (by omega) (by omega), z32_id (x := c + 1) (by omega) (by omega)]
        exact ih (c + 1) (b + 1) (by omega) (by omega) (by omega) (by omega) hq
      · rw [gCnt_no (P := iCh β H) y] at hq
        rw [z32_id (x := b + 1) (by omega) (by omega), z32_id (x := c + 0) (by omega) (by omega)]
        exact ih (c + 0) (b + 1) (by omega) (by omega) (by omega) (by omega) (by rw [show c + 0 = c by omega]; exact hq)
  refine v_92 (key (B - 25).toNat 0 25 (by omega) (by omega) (by omega) (by omega) ?_)
  rw [Int.zero_add]
  exact hQ
/-- Image.forgetUndo -/
theorem i_forget {F : zHp} {B n : Int} {X : List Int} {β : Int → Int} {t : Nat} {L : Int → Int} {H : zHp} {Qr Qt : Int → zS → Prop} (h : fS F B n X β L H) (hQ : ∀ H', H' 18 8 = 0 → (∀ b, 0 ≤ b → b < B → H' 23 b = 0) → (∀ b, H' 23 b = 0 ∨ H' 23 b = 1) → (∀ q i, q ≠ 23 → (q = 18 → i ≠ 8) → H' q i = H q i) → Qr 0 (t, L, H')) : zEnds 80 98 0 [(25, 18), (9, 0)] [] (t, L, H) Qr Qt := by
  obtain ⟨⟨hl0, l19, l20, l21, l22, l23, l24, l25⟩, ⟨h1, h2, ⟨h3, h3b, h3c⟩, h4, h5, h6, h7, h8⟩, -⟩ := h
  have un := iUns_nn H X
  have key : ∀ (k : Nat) (i : Int) (G : zHp), 0 ≤ i → i + k = H 18 8 → (∀ q j, q ≠ 23 → G q j = H q j) → (∀ b, G 23 b = 0 ∨ G 23 b = 1) → (∀ b, 0 ≤ b → b < B → G 23 b ≠ 0 → ∃ j, i ≤ j ∧ j < H 18 8 ∧ H 24 j = b) → zEnds 80 98 2 [(25, 18), (0, i)] [] (t, L, G) Qr Qt := by
    intro k
    induction k with
    | zero =>
      intro i G i1 i2 g1 g2 g3
      refine v_98_2 ⟨fun _ => hQ _ zupd_at (fun b b1 b2 => ?_) (fun b => ?_) (fun q j hq hj => ?_), fun z => absurd (by show G 18 8 ≤ i; rw [g1 18 8 (by decide)]; omega) z⟩
      · show zupd G 18 8 0 23 b = 0
        rw [zupd_ne (by decide)]
        by_cases c : G 23 b = 0
        · exact c
        · obtain ⟨j, j1, j2, -⟩ := g3 b b1 b2 c
          omega
      · show zupd G 18 8 0 23 b = 0 ∨ zupd G 18 8 0 23 b = 1
        rw [zupd_ne (by decide)]
        exact g2 b
      · show zupd G 18 8 0 q j = H q j
        rw [zupd_no (fun u => hj u.1 u.2)]
        exact g1 q j hq
    | succ k ih =>
      intro i G i1 i2 g1 g2 g3
      have e24 : G 24 i = H 24 i := g1 24 i (by decide)
      have hs := h4 i i1 (by omega)
      refine v_98_2 ⟨fun z => absurd z (by show ¬ G 18 8 ≤ i; rw [g1 18 8 (by decide)]; omega), fun _ => ⟨⟨i1, by show i < L 24; omega⟩, ⟨by show 0 ≤ G 24 i ∧ G 24 i < L 23; rw [e24]; omega, Or.inl rfl⟩, ?_⟩⟩
      show zEnds 80 98 2 [(25, 18), (0, z32 (i + 1))] [] (t, L, zupd G 23 (G 24 i) 0) Qr Qt
      rw [z32_id (x := i + 1) (by omega) (by omega), e24]
      refine ih (i + 1) _ (by omega) (by omega) (fun q j hq => by rw [zupd_ne hq]; exact g1 q j hq) (fun b => ?_) (fun b b1 b2 b3 => ?_)
      · by_cases c : b = H 24 i
        · rw [c, zupd_at]; exact Or.inl rfl
        · rw [zupd_no (fun u => c u.2)]; exact g2 b
      · by_cases c : b = H 24 i
        · rw [c, zupd_at] at b3; exact absurd rfl b3
        · rw [zupd_no (fun u => c u.2)] at b3
          obtain ⟨j, j1, j2, j3⟩ := g3 b b1 b2 b3
          exact ⟨j, by have : j ≠ i := fun u => c (by rw [← j3, u]); omega, j2, j3⟩
  exact v_98 (key (H 18 8).toNat 0 H (by omega) (by omega) (fun _ _ _ => rfl) (fun b => (h7 b).2) (fun b b1 b2 b3 => h5 b b1 b2 b3))
/-- Image.undo -/
theorem i_undo {F : zHp} {B n : Int} {X : List Int} {β : Int → Int} {t : Nat} {L : Int → Int} {H : zHp} {Qr Qt : Int → zS → Prop} (h : fS F B n X β L H) (hQ : ∀ H', H' 18 8 = 0 → (∀ b, 0 ≤ b → b < B → H' 23 b = 0) → (∀ b, H' 23 b = 0 ∨ H' 23 b = 1) → (∀ b j, 0 ≤ b → b < B → 0 ≤ j → j < 8 → H' 19 (8 * b + j) = F 19 (8 * b + j)) → (∀ q i, q ≠ 19 → q ≠ 23 → (q = 18 → i ≠ 8) → H' q i = H q i) → Qr 0 (t, L, H')) : zEnds 80 97 0 [(25, 18), (9, 0)] [] (t, L, H) Qr Qt := by
  have h0 := h
  obtain ⟨⟨hl0, l19, l20, l21, l22, l23, l24, l25⟩, ⟨h1, h2, ⟨h3, h3b, h3c⟩, h4, h5, h6, h7, h8, -⟩, -⟩ := h
  have un := iUns_nn H X
  have key : ∀ (k : Nat) (i : Int) (G : zHp), 0 ≤ i → i + k = H 18 8 → (∀ q j, q ≠ 19 → G q j = H q j) → (∀ b, 0 ≤ b → b < B → (∀ j, 0 ≤ j → j < 8 → G 19 (8 * b + j) = F 19 (8 * b + j)) ∨ ∃ j, i ≤ j ∧ j < H 18 8 ∧ H 24 j = b) → zEnds 80 97 2 [(25, 18), (0, i)] [] (t, L, G) Qr Qt := by
    intro k
    induction k with
    | zero =>
      intro i G i1 i2 g1 g3
      have hG : fS F B n X (zB8 G 19) L G := by
        refine ⟨⟨hl0, l19, l20, l21, l22, l23, l24, l25⟩, ⟨fun q j hq => by rw [g1 q j hq.1]; exact h1 q j hq, h2, ?_, fun j j1 j2 => ?_, fun b b1 b2 b3 => ?_, fun b b1 b2 b3 j j1 j2 => ?_, fun b => ?_, fun b b1 b2 => ?_, fun x x0 x1 _ u => Or.inl ?_⟩, fun _ _ => rfl⟩
        · have m := iUns_mono (H := H) (H' := G) (fun x hx => by rw [g1 23 x (by decide)]; exact hx) X
          rw [g1 18 8 (by decide)]; omega
        · rw [g1 18 8 (by decide)] at j2
          rw [g1 24 j (by decide)]
          exact ⟨(h4 j j1 j2).1, fun u u1 u2 => by rw [g1 25 _ (by decide)]; exact (h4 j j1 j2).2 u u1 u2⟩
        · rw [g1 23 b (by decide)] at b3
          obtain ⟨j, j1, j2, j3⟩ := h5 b b1 b2 b3
          exact ⟨j, j1, by rw [g1 18 8 (by decide)]; exact j2, by rw [g1 24 j (by decide)]; exact j3⟩
        · rcases g3 b b1 b2 with u | ⟨u, u1, u2, -⟩
          · exact u j j1 j2
          · omega
        · rw [g1 22 b (by decide), g1 23 b (by decide)]; exact h7 b
        · rw [g1 22 b (by decide), g1 23 b (by decide)]; exact h8 b b1 b2
        · have ew : G 19 ((3648 + x / 8) / 8) = F 19 ((3648 + x / 8) / 8) := by
            rcases g3 ((3648 + x / 8) / 64) (by omega) (by omega) with y | ⟨y, y1, y2, -⟩
            · have := y ((3648 + x / 8) / 8 % 8) (by omega) (by omega)
              rw [show 8 * ((3648 + x / 8) / 64) + (3648 + x / 8) / 8 % 8 = (3648 + x / 8) / 8 by omega] at this
              exact this
            · omega
          unfold mT zB8 at u ⊢
          rw [ew] at u
          exact u
      refine v_97_2 ⟨fun _ => i_forget hG (fun H' a1 a2 a3 a4 => hQ H' a1 a2 a3 (fun b j b1 b2 j1 j2 => ?_) (fun q j hq1 hq2 hj => ?_)), fun z => absurd (by show G 18 8 ≤ i; rw [g1 18 8 (by decide)]; omega) z⟩
      · rw [a4 19 _ (by decide) (fun u => absurd u (by decide))]
        rcases g3 b b1 b2 with u | ⟨u, u1, u2, -⟩
        · exact u j j1 j2
        · omega
      · rw [a4 q j hq2 hj]
        exact g1 q j hq1
    | succ k ih =>
      intro i G i1 i2 g1 g3
      have e24 : G 24 i = H 24 i := g1 24 i (by decide)
      have hs := h4 i i1 (by omega)
      have z8 : z32 (8 * H 24 i) = 8 * H 24 i := z32_id (by omega) (by omega)
      have z9 : z32 (8 * i) = 8 * i := z32_id (by omega) (by omega)
      refine v_97_2 ⟨fun z => absurd z (by show ¬ G 18 8 ≤ i; rw [g1 18 8 (by decide)]; omega), fun _ => ⟨⟨i1, by show i < L 24; omega⟩, ?_⟩⟩
      dsimp only
      rw [e24, z8, z9]
      refine ⟨by omega, ?_⟩
      rw [z32_id (x := i + 1) (by omega) (by omega)]
      refine ih (i + 1) _ (by omega) (by omega) (fun q j hq => by rw [zcpy_ne hq]; exact g1 q j hq) (fun b b1 b2 => ?_)
      by_cases c : b = H 24 i
      · refine Or.inl (fun j j1 j2 => ?_)
        unfold zcpy
        rw [if_pos ⟨rfl, by omega, by omega⟩, g1 25 _ (by decide), show 8 * i + (8 * b + j - 8 * H 24 i) = 8 * i + j by omega, hs.2 j j1 j2, c]
      · rcases g3 b b1 b2 with u | ⟨j, j1, j2, j3⟩
        · refine Or.inl (fun j j1 j2 => ?_)
          unfold zcpy
          rw [if_neg (by omega)]
          exact u j j1 j2
        · exact Or.inr ⟨j, by have : j ≠ i := fun u => c (by rw [← j3, u]); omega, j2, j3⟩
  refine v_97 (key (H 18 8).toNat 0 H (by omega) (by omega) (fun _ _ _ => rfl) (fun b b1 b2 => ?_))
  by_cases c : H 23 b = 0
  · exact Or.inl (h6 b b1 b2 c)
  · exact Or.inr (h5 b b1 b2 c)
