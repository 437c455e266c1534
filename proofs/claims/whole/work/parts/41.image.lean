/-! The image: its bytes, and what undoes an operation. -/
def iLen (B : Int) (L : Int → Int) : Prop := (96 ≤ B ∧ B ≤ 768) ∧ L 19 = 8 * B ∧ L 20 = 8 * B ∧ L 21 = 8 ∧ L 22 = B ∧ L 23 = B ∧ L 24 = 32 ∧ L 25 = 256
def iFr (q i : Int) : Prop := q ≠ 19 ∧ q ≠ 22 ∧ q ≠ 23 ∧ q ≠ 24 ∧ q ≠ 25 ∧ q ≠ 28 ∧ (q = 18 → i ≠ 8)
/-- how many of the blocks are not saved yet -/
def iUns (H : zHp) : List Int → Int
  | [] => 0
  | b :: X => (if H 23 b = 0 then 1 else 0) + iUns H X
theorem iUns_nn (H : zHp) : ∀ X, 0 ≤ iUns H X := by
  intro X
  induction X with
  | nil => exact Int.le_refl 0
  | cons b X ih =>
    show 0 ≤ (if H 23 b = 0 then 1 else 0) + iUns H X
    by_cases c : H 23 b = 0
    · rw [if_pos c]; omega
    · rw [if_neg c]; omega
theorem iUns_mono {H H' : zHp} (hm : ∀ x, H 23 x ≠ 0 → H' 23 x ≠ 0) : ∀ X, iUns H' X ≤ iUns H X := by
  intro X
  induction X with
  | nil => exact Int.le_refl 0
  | cons b X ih =>
    show (if H' 23 b = 0 then 1 else 0) + iUns H' X ≤ (if H 23 b = 0 then 1 else 0) + iUns H X
    by_cases c : H 23 b = 0
    · rw [if_pos c]
      by_cases c2 : H' 23 b = 0
      · rw [if_pos c2]; omega
      · rw [if_neg c2]; omega
    · rw [if_neg c, if_neg (hm b c)]; omega
theorem iUns_lt {H H' : zHp} {b : Int} (hm : ∀ x, H 23 x ≠ 0 → H' 23 x ≠ 0) (h0 : H 23 b = 0) (h1 : H' 23 b ≠ 0) : ∀ X, b ∈ X → iUns H' X + 1 ≤ iUns H X := by
  intro X
  induction X with
  | nil => intro h; cases h
  | cons a X ih =>
    intro h
    show (if H' 23 a = 0 then 1 else 0) + iUns H' X + 1 ≤ (if H 23 a = 0 then 1 else 0) + iUns H X
    have h2 := iUns_mono hm X
    by_cases c : a = b
    · rw [c, if_pos h0, if_neg h1]; omega
    · have h3 := ih ((List.mem_cons.mp h).resolve_left (fun z => c z.symm))
      by_cases c1 : H 23 a = 0
      · rw [if_pos c1]
        by_cases c2 : H' 23 a = 0
        · rw [if_pos c2]; omega
        · rw [if_neg c2]; omega
      · rw [if_neg c1, if_neg (hm a c1)]; omega
/-- a block is taken -/
def mT (β : Int → Int) (b : Int) : Prop := β (3648 + b / 8) / ((2 ^ (b % 8).toNat : Nat) : Int) % 2 = 1
/-- what is taken now and was not at F is saved, but for e -/
def nT (e : Int) (F H : zHp) : Prop := ∀ b, 59 ≤ b → b < 768 → b ≠ e → mT (zB8 H 19) b → mT (zB8 F 19) b ∨ H 23 b ≠ 0
/-- an operation runs that began at F; the blocks X are provided for -/
def iTe (e : Int) (F : zHp) (B n : Int) (X : List Int) (H : zHp) : Prop :=
  (∀ q i, iFr q i → H q i = F q i) ∧ F 18 1 = B ∧ (0 ≤ H 18 8 ∧ H 18 8 + iUns H X ≤ n ∧ n ≤ 24) ∧
  (∀ i, 0 ≤ i → i < H 18 8 → (0 ≤ H 24 i ∧ H 24 i < B) ∧ ∀ j, 0 ≤ j → j < 8 → H 25 (8 * i + j) = F 19 (8 * H 24 i + j)) ∧
  (∀ b, 0 ≤ b → b < B → H 23 b ≠ 0 → ∃ i, 0 ≤ i ∧ i < H 18 8 ∧ H 24 i = b) ∧
  (∀ b, 0 ≤ b → b < B → H 23 b = 0 → ∀ j, 0 ≤ j → j < 8 → H 19 (8 * b + j) = F 19 (8 * b + j)) ∧
  (∀ b, (H 22 b = 0 ∨ H 22 b = 1) ∧ (H 23 b = 0 ∨ H 23 b = 1)) ∧
  (∀ b, 0 ≤ b → b < B → (H 22 b = 0 ↔ F 22 b = 0 ∧ H 23 b = 0)) ∧ nT e F H
def iT (F : zHp) (B n : Int) (X : List Int) (H : zHp) : Prop := iTe (-1) F B n X H
theorem nT.same {e : Int} {F H H' : zHp} (h : nT e F H) (h19 : ∀ i, H' 19 i = H 19 i) (h23 : ∀ x, H 23 x ≠ 0 → H' 23 x ≠ 0) : nT e F H' := fun b b0 b1 be u => by
  have u' : mT (zB8 H 19) b := by
    unfold mT zB8 at u ⊢
    rw [h19] at u
    exact u
  exact (h b b0 b1 be u').imp (fun z => z) (h23 b)
theorem iTe.all {e : Int} {F : zHp} {B n : Int} {X : List Int} {H : zHp} (h : iTe e F B n X H) (he : e < 59 ∨ H 23 e ≠ 0) : iT F B n X H := by
  obtain ⟨h1, h2, h3, h4, h5, h6, h7, h8, h9⟩ := h
  refine ⟨h1, h2, h3, h4, h5, h6, h7, h8, fun b b0 b1 _ u => ?_⟩
  by_cases c : b = e
  · subst c
    rcases he with z | z
    · omega
    · exact Or.inr z
  · exact h9 b b0 b1 c u
theorem iT.more {F : zHp} {B n b : Int} {X : List Int} {H : zHp} (h : iT F B n X H) (hn : n < 24) : iT F B (n + 1) (b :: X) H := by
  obtain ⟨h1, h2, ⟨h3, h4, h5⟩, h6⟩ := h
  refine ⟨h1, h2, ⟨h3, ?_, by omega⟩, h6⟩
  show H 18 8 + ((if H 23 b = 0 then 1 else 0) + iUns H X) ≤ n + 1
  by_cases c : H 23 b = 0
  · rw [if_pos c]; omega
  · rw [if_neg c]; omega
theorem iTe.wr {e e' : Int} {F : zHp} {B n b : Int} {X : List Int} {H H' : zHp} (h : iTe e F B n X H) (hs : H 23 b ≠ 0) (he : ∀ q i, q ≠ 19 → H' q i = H q i) (hb : ∀ i, ¬ (8 * b ≤ i ∧ i < 8 * b + 8) → H' 19 i = H 19 i) (hN : nT e' F H') : iTe e' F B n X H' := by
  obtain ⟨h1, h2, h3, h4, h5, h6, h7, h8, -⟩ := h
  have e18 : H' 18 8 = H 18 8 := he 18 8 (by decide)
  have e23 : ∀ x, H' 23 x = H 23 x := fun x => he 23 x (by decide)
  have e22 : ∀ x, H' 22 x = H 22 x := fun x => he 22 x (by decide)
  have e24 : ∀ x, H' 24 x = H 24 x := fun x => he 24 x (by decide)
  have e25 : ∀ x, H' 25 x = H 25 x := fun x => he 25 x (by decide)
  have m := iUns_mono (H := H) (H' := H') (fun x hx => by rw [e23]; exact hx) X
  refine ⟨fun q i hq => by rw [he q i hq.1]; exact h1 q i hq, h2, by rw [e18]; omega, fun i i1 i2 => ?_, fun x x1 x2 x3 => ?_, fun x x1 x2 x3 j j1 j2 => ?_, fun x => ?_, fun x x1 x2 => ?_, hN⟩
  · rw [e18] at i2
    rw [e24]
    refine ⟨(h4 i i1 i2).1, fun j j1 j2 => ?_⟩
    rw [e25]
    exact (h4 i i1 i2).2 j j1 j2
  · rw [e23] at x3
    obtain ⟨i, i1, i2, i3⟩ := h5 x x1 x2 x3
    exact ⟨i, i1, by rw [e18]; exact i2, by rw [e24]; exact i3⟩
  · rw [e23] at x3
    have hx : x ≠ b := fun z => hs (by rw [← z]; exact x3)
    rw [hb _ (by omega)]
    exact h6 x x1 x2 x3 j j1 j2
  · rw [e22, e23]; exact h7 x
  · rw [e22, e23]; exact h8 x x1 x2
theorem nT.wr {e b : Int} {F H H' : zHp} (h : nT e F H) (he : ∀ q i, q ≠ 19 → H' q i = H q i) (hb : ∀ i, ¬ (8 * b ≤ i ∧ i < 8 * b + 8) → H' 19 i = H 19 i) (hm : b ≠ 57 ∧ b ≠ 58) : nT e F H' := fun x x0 x1 xe u => by
  have u' : mT (zB8 H 19) x := by
    unfold mT zB8 at u ⊢
    rw [hb _ (by omega)] at u
    exact u
  exact (h x x0 x1 xe u').imp (fun z => z) (fun z => by rw [he 23 x (by decide)]; exact z)
/-- Image.touch -/
theorem i_touch {e : Int} {F : zHp} {B n b : Int} {X : List Int} {t : Nat} {L : Int → Int} {H : zHp} {Qr Qt : Int → zS → Prop} (hl : iLen B L) (h : iTe e F B n X H) (hb : 0 ≤ b ∧ b < B) (hX : b ∈ X)
    (hQ : ∀ H', iTe e F B n X H' → H' 23 b ≠ 0 → (∀ i, H' 19 i = H 19 i) → Qr 0 (t, L, H')) : zEnds 80 96 0 [(25, 18), (0, b)] [] (t, L, H) Qr Qt := by
  obtain ⟨⟨l0, l1⟩, l19, l20, l21, l22, l23, l24, l25⟩ := hl
  obtain ⟨h1, h2, ⟨h3, h3b, h3c⟩, h4, h5, h6, h7, h8, h9⟩ := h
  refine v_96 ?_
  dsimp only
  have e0 : zupd H 22 b 1 23 b = H 23 b := zupd_ne (by decide)
  have e1 : zupd H 22 b 1 18 8 = H 18 8 := zupd_ne (by decide)
  have e2 : zupd (zupd H 22 b 1) 23 b 1 18 8 = H 18 8 := by rw [zupd_ne (by decide), zupd_ne (by decide)]
  have e3 : zupd (zupd (zupd H 22 b 1) 23 b 1) 24 (H 18 8) b 18 8 = H 18 8 := by rw [zupd_ne (by decide), e2]
  have e4 : ∀ a c, zcpy (zupd (zupd (zupd H 22 b 1) 23 b 1) 24 (H 18 8) b) 19 a 25 c 8 18 8 = H 18 8 := fun a c => by rw [zcpy_ne (by decide), e3]
  have z8 : z32 (8 * b) = 8 * b := z32_id (by omega) (by omega)
  have un := iUns_nn H X
  rw [e0, e1, e2, e3, e4, z8, z32_id (x := 8 * H 18 8) (by omega) (by omega), z32_id (x := H 18 8 + 1) (by omega) (by omega)]
  refine ⟨⟨by omega, Or.inr rfl⟩, by omega, fun z => ?_, fun z => ⟨fun y => ⟨⟨by omega, Or.inr rfl⟩, by omega, by omega, ?_⟩, fun y => ?_⟩⟩
  · have k22 : ∀ x, zupd H 22 b 1 22 x = if x = b then 1 else H 22 x := fun x => by
      by_cases c : x = b
      · rw [if_pos c, c, zupd_at]
      · rw [if_neg c, zupd_no (fun u => c u.2)]
    have kn : ∀ q i, q ≠ 22 → zupd H 22 b 1 q i = H q i := fun q i hq => zupd_ne hq
    refine hQ _ ⟨fun q i hq => by rw [kn q i hq.2.1]; exact h1 q i hq, h2, ?_, fun i i1 i2 => ?_, fun x x1 x2 x3 => ?_, fun x x1 x2 x3 j j1 j2 => ?_, fun x => ?_, fun x x1 x2 => ?_, h9.same (fun i => kn 19 i (by decide)) (fun x hx => by rw [kn 23 x (by decide)]; exact hx)⟩ (by rw [kn 23 b (by decide)]; exact z) (fun i => kn 19 i (by decide))
    · have m := iUns_mono (H := H) (H' := zupd H 22 b 1) (fun x hx => by rw [kn 23 x (by decide)]; exact hx) X
      rw [kn 18 8 (by decide)]
      omega
    · rw [kn 18 8 (by decide)] at i2
      rw [kn 24 i (by decide)]
      exact ⟨(h4 i i1 i2).1, fun j j1 j2 => by rw [kn 25 _ (by decide)]; exact (h4 i i1 i2).2 j j1 j2⟩
    · rw [kn 23 x (by decide)] at x3
      obtain ⟨i, i1, i2, i3⟩ := h5 x x1 x2 x3
      exact ⟨i, i1, by rw [kn 18 8 (by decide)]; exact i2, by rw [kn 24 i (by decide)]; exact i3⟩
    · rw [kn 23 x (by decide)] at x3
      rw [kn 19 _ (by decide)]
      exact h6 x x1 x2 x3 j j1 j2
    · rw [kn 23 x (by decide), k22]
      by_cases c : x = b
      · rw [if_pos c]; exact ⟨Or.inr rfl, (h7 x).2⟩
      · rw [if_neg c]; exact h7 x
    · rw [kn 23 x (by decide), k22]
      by_cases c : x = b
      · rw [if_pos c, c]
        exact ⟨fun u => by omega, fun u => absurd u.2 z⟩
      · rw [if_neg c]; exact h8 x x1 x2
  · have z : H 23 b = 0 := Classical.not_not.mp z
    have k22 : ∀ x, zupd (zcpy (zupd (zupd (zupd H 22 b 1) 23 b 1) 24 (H 18 8) b) 19 (8 * b) 25 (8 * H 18 8) 8) 18 8 (H 18 8 + 1) 22 x = if x = b then 1 else H 22 x := fun x => by
      rw [zupd_ne (by decide), zcpy_ne (by decide), zupd_ne (by decide), zupd_ne (by decide)]
      by_cases c : x = b
      · rw [if_pos c, c, zupd_at]
      · rw [if_neg c, zupd_no (fun u => c u.2)]
    have k23 : ∀ x, zupd (zcpy (zupd (zupd (zupd H 22 b 1) 23 b 1) 24 (H 18 8) b) 19 (8 * b) 25 (8 * H 18 8) 8) 18 8 (H 18 8 + 1) 23 x = if x = b then 1 else H 23 x := fun x => by
      rw [zupd_ne (by decide), zcpy_ne (by decide), zupd_ne (by decide)]
      by_cases c : x = b
      · rw [if_pos c, c, zupd_at]
      · rw [if_neg c, zupd_no (fun u => c u.2), zupd_ne (by decide)]
    have k24 : ∀ x, zupd (zcpy (zupd (zupd (zupd H 22 b 1) 23 b 1) 24 (H 18 8) b) 19 (8 * b) 25 (8 * H 18 8) 8) 18 8 (H 18 8 + 1) 24 x = if x = H 18 8 then b else H 24 x := fun x => by
      rw [zupd_ne (by decide), zcpy_ne (by decide)]
      by_cases c : x = H 18 8
      · rw [if_pos c, c, zupd_at]
      · rw [if_neg c, zupd_no (fun u => c u.2), zupd_ne (by decide), zupd_ne (by decide)]
    have k25 : ∀ x, zupd (zcpy (zupd (zupd (zupd H 22 b 1) 23 b 1) 24 (H 18 8) b) 19 (8 * b) 25 (8 * H 18 8) 8) 18 8 (H 18 8 + 1) 25 x = if 8 * H 18 8 ≤ x ∧ x < 8 * H 18 8 + 8 then H 19 (8 * b + (x - 8 * H 18 8)) else H 25 x := fun x => by
      rw [zupd_ne (by decide)]
      unfold zcpy
      by_cases c : 8 * H 18 8 ≤ x ∧ x < 8 * H 18 8 + 8
      · rw [if_pos ⟨rfl, c⟩, if_pos c, zupd_ne (by decide), zupd_ne (by decide), zupd_ne (by decide)]
      · rw [if_neg (fun u => c u.2), if_neg c, zupd_ne (by decide), zupd_ne (by decide), zupd_ne (by decide)]
    have k19 : ∀ x, zupd (zcpy (zupd (zupd (zupd H 22 b 1) 23 b 1) 24 (H 18 8) b) 19 (8 * b) 25 (8 * H 18 8) 8) 18 8 (H 18 8 + 1) 19 x = H 19 x := fun x => by
      rw [zupd_ne (by decide), zcpy_ne (by decide), zupd_ne (by decide), zupd_ne (by decide), zupd_ne (by decide)]
    have k18 : zupd (zcpy (zupd (zupd (zupd H 22 b 1) 23 b 1) 24 (H 18 8) b) 19 (8 * b) 25 (8 * H 18 8) 8) 18 8 (H 18 8 + 1) 18 8 = H 18 8 + 1 := zupd_at
    have kn : ∀ q i, iFr q i → zupd (zcpy (zupd (zupd (zupd H 22 b 1) 23 b 1) 24 (H 18 8) b) 19 (8 * b) 25 (8 * H 18 8) 8) 18 8 (H 18 8 + 1) q i = H q i := fun q i hq => by
      rw [zupd_no (fun u => hq.2.2.2.2.2.2 u.1 u.2), zcpy_ne hq.2.2.2.2.1, zupd_ne hq.2.2.2.1, zupd_ne hq.2.2.1, zupd_ne hq.2.1]
    generalize zupd (zcpy (zupd (zupd (zupd H 22 b 1) 23 b 1) 24 (H 18 8) b) 19 (8 * b) 25 (8 * H 18 8) 8) 18 8 (H 18 8 + 1) = K at k22 k23 k24 k25 k19 k18 kn
    have hKb : K 23 b ≠ 0 := by rw [k23, if_pos rfl]; decide
    have hm : ∀ x, H 23 x ≠ 0 → K 23 x ≠ 0 := fun x hx => by
      rw [k23]
      by_cases c : x = b
      · rw [if_pos c]; decide
      · rw [if_neg c]; exact hx
    have hu := iUns_lt hm z hKb X hX
    refine hQ K ⟨fun q i hq => by rw [kn q i hq]; exact h1 q i hq, h2, by rw [k18]; omega, fun i i1 i2 => ?_, fun x x1 x2 x3 => ?_, fun x x1 x2 x3 j j1 j2 => ?_, fun x => ?_, fun x x1 x2 => ?_, h9.same k19 hm⟩ hKb k19
    · rw [k18] at i2
      rw [k24]
      by_cases c : i = H 18 8
      · rw [if_pos c]
        refine ⟨hb, fun j j1 j2 => ?_⟩
        rw [k25, if_pos (by omega), show 8 * b + (8 * i + j - 8 * H 18 8) = 8 * b + j by omega]
        exact h6 b hb.1 hb.2 z j j1 j2
      · rw [if_neg c]
        refine ⟨(h4 i i1 (by omega)).1, fun j j1 j2 => ?_⟩
        rw [k25, if_neg (by omega)]
        exact (h4 i i1 (by omega)).2 j j1 j2
    · rw [k23] at x3
      by_cases c : x = b
      · exact ⟨H 18 8, h3, by rw [k18]; omega, by rw [k24, if_pos rfl, c]⟩
      · rw [if_neg c] at x3
        obtain ⟨i, i1, i2, i3⟩ := h5 x x1 x2 x3
        exact ⟨i, i1, by rw [k18]; omega, by rw [k24, if_neg (by omega)]; exact i3⟩
    · rw [k23] at x3
      by_cases c : x = b
      · rw [if_pos c] at x3; omega
      · rw [if_neg c] at x3
        rw [k19]
        exact h6 x x1 x2 x3 j j1 j2
    · rw [k22, k23]
      by_cases c : x = b
      · rw [if_pos c, if_pos c]; exact ⟨Or.inr rfl, Or.inr rfl⟩
      · rw [if_neg c, if_neg c]; exact h7 x
    · rw [k22, k23]
      by_cases c : x = b
      · rw [if_pos c, if_pos c]; omega
      · rw [if_neg c, if_neg c]; exact h8 x x1 x2
  · have z : H 23 b = 0 := Classical.not_not.mp z
    have hu := iUns_lt (H := H) (H' := zupd H 23 b 1) (fun x hx => by
      by_cases c : x = b
      · rw [c, zupd_at]; decide
      · rw [zupd_no (fun u => c u.2)]; exact hx) z (by rw [zupd_at]; decide) X hX
    have un2 := iUns_nn (zupd H 23 b 1) X
    omega
/-- the image's bytes while an operation runs -/
def fS (F : zHp) (B n : Int) (X : List Int) (β : Int → Int) (L : Int → Int) (H : zHp) : Prop := iLen B L ∧ iT F B n X H ∧ ∀ j, 0 ≤ j → zB8 H 19 j = β j
def bU (β : Int → Int) (i v : Int) : Int → Int := fun j => if j = i then v else β j
def bZ (β : Int → Int) (b : Int) : Int → Int := fun j => if 64 * b ≤ j ∧ j < 64 * b + 64 then 0 else β j
theorem fS.rg {F : zHp} {B n : Int} {X : List Int} {β : Int → Int} {L : Int → Int} {H : zHp} (h : fS F B n X β L H) (j : Int) (hj : 0 ≤ j) : 0 ≤ β j ∧ β j < 256 := by
  rw [← h.2.2 j hj]
  exact zB8_rg _ _ _
theorem fS.more {F : zHp} {B n b : Int} {X : List Int} {β : Int → Int} {L : Int → Int} {H : zHp} (h : fS F B n X β L H) (hn : n < 24) : fS F B (n + 1) (b :: X) β L H := ⟨h.1, h.2.1.more hn, h.2.2⟩
theorem i_byteAt {F : zHp} {B n b k : Int} {X : List Int} {β : Int → Int} {t : Nat} {L : Int → Int} {H : zHp} {Qr Qt : Int → zS → Prop} (h : fS F B n X β L H) (hb : 0 ≤ b ∧ b < B) (hk : 0 ≤ k ∧ k < 64) (hQ : Qr (β (64 * b + k)) (t, L, H)) : zEnds 80 78 0 [(25, 18), (0, b), (0, k)] [] (t, L, H) Qr Qt := by
  obtain ⟨⟨⟨l0, l1⟩, l19, -⟩, -, hβ⟩ := h
  rw [← hβ _ (by omega)] at hQ
  refine v_78 ?_
  dsimp only
  rw [z32_id (x := 8 * b) (by omega) (by omega), zdiv_pos hk.1 (by omega) (by decide), zrem_pos hk.1, z32_id (x := 8 * b + k / 8) (by omega) (by omega), z32_id (x := 8 * (k % 8)) (by omega) (by omega), show 8 * (k % 8) = ((8 * (k % 8).toNat : Nat) : Int) by omega, zbyte _ (by omega)]
  refine ⟨by decide, by omega, by decide, ?_⟩
  unfold zB8 at hQ
  rw [show (64 * b + k) / 8 = 8 * b + k / 8 by omega, show (64 * b + k) % 8 = k % 8 by omega] at hQ
  exact hQ
theorem i_pairAt {F : zHp} {B n b k : Int} {X : List Int} {β : Int → Int} {t : Nat} {L : Int → Int} {H : zHp} {Qr Qt : Int → zS → Prop} (h : fS F B n X β L H) (hb : 0 ≤ b ∧ b < B) (hk : 0 ≤ k ∧ k < 63) (hQ : Qr (β (64 * b + k) + 256 * β (64 * b + k + 1)) (t, L, H)) : zEnds 80 79 0 [(25, 18), (0, b), (0, k)] [] (t, L, H) Qr Qt := by
  refine v_79 (i_byteAt h hb (by omega) ?_)
  rw [z32_id (x := k + 1) (by omega) (by omega)]
  refine i_byteAt h hb (by omega) ?_
  rw [zpair (h.rg _ (by omega)) (h.rg _ (by omega)), ← Int.add_assoc]
  exact hQ
theorem zupB_ne {H : zHp} {w i v q j : Int} (h : q ≠ w) : zupB H w i v q j = H q j := by unfold zupB; exact zupd_ne h
theorem fS.set {F : zHp} {B n b k v : Int} {X : List Int} {β : Int → Int} {L : Int → Int} {H : zHp} (h : fS F B n X β L H) (hs : H 23 b ≠ 0) (hb : 0 ≤ b ∧ b < B) (hk : 0 ≤ k ∧ k < 64) (hm : b ≠ 57 ∧ b ≠ 58 := by omega) : fS F B n X (bU β (64 * b + k) (v % 256)) L (zupB H 19 (64 * b + k) v) := by
  have hw : ∀ i, ¬ (8 * b ≤ i ∧ i < 8 * b + 8) → zupB H 19 (64 * b + k) v 19 i = H 19 i := fun i hi => by
    unfold zupB
    exact zupd_no (fun u => hi (by omega))
  have hN : nT (-1) F H := h.2.1.2.2.2.2.2.2.2.2
  refine ⟨h.1, iTe.wr (e := -1) h.2.1 hs (fun q i hq => zupB_ne hq) hw (hN.wr (fun q i hq => zupB_ne hq) hw hm), fun j hj => ?_⟩
  · rw [zB8_set (by omega) hj]
    unfold bU
    by_cases c : j = 64 * b + k
    · rw [if_pos ⟨rfl, c⟩, if_pos c]
    · rw [if_neg (fun u => c u.2), if_neg c]
      exact h.2.2 j hj
theorem fS.same {F : zHp} {B n : Int} {X : List Int} {β : Int → Int} {L : Int → Int} {H H' : zHp} (h : fS F B n X β L H) (h' : iT F B n X H') (he : ∀ i, H' 19 i = H 19 i) : fS F B n X β L H' := ⟨h.1, h', fun j hj => by
  rw [← h.2.2 j hj]
  unfold zB8
  rw [he]⟩
theorem i_setByte {F : zHp} {B n b k v : Int} {X : List Int} {β : Int → Int} {t : Nat} {L : Int → Int} {H : zHp} {Qr Qt : Int → zS → Prop} (h : fS F B n X β L H) (hb : 0 ≤ b ∧ b < B) (hk : 0 ≤ k ∧ k < 64) (hX : b ∈ X) (hQ : ∀ H', fS F B n X (bU β (64 * b + k) (v % 256)) L H' → Qr 0 (t, L, H')) (hm : b ≠ 57 ∧ b ≠ 58 := by omega) : zEnds 80 80 0 [(25, 18), (0, b), (0, k), (0, v)] [] (t, L, H) Qr Qt := by
  have hl := h.1
  have hl1 := hl.2.1
  have hl0 := hl.1
  refine v_80 (i_touch h.1 h.2.1 hb hX (fun H1 g1 g2 g3 => ?_))
  have g := h.same g1 g3
  rw [z32_id (x := 8 * b) (by omega) (by omega)]
  refine s_setOne (by omega) hk.1 (by show 8 * (8 * b) + k < 8 * L 19; omega) (by show L 19 ≤ 1000000; omega) ?_
  rw [show 8 * (8 * b) + k = 64 * b + k by omega]
  exact hQ _ (g.set g2 hb hk)
theorem i_setPair {F : zHp} {B n b k v : Int} {X : List Int} {β : Int → Int} {t : Nat} {L : Int → Int} {H : zHp} {Qr Qt : Int → zS → Prop} (h : fS F B n X β L H) (hb : 0 ≤ b ∧ b < B) (hk : 0 ≤ k ∧ k < 63) (hv : 0 ≤ v ∧ v ≤ 2147483647) (hX : b ∈ X) (hQ : ∀ H', fS F B n X (bU (bU β (64 * b + k) (v % 256)) (64 * b + k + 1) (v / 256 % 256)) L H' → Qr 0 (t, L, H')) (hm : b ≠ 57 ∧ b ≠ 58 := by omega) : zEnds 80 81 0 [(25, 18), (0, b), (0, k), (0, v)] [] (t, L, H) Qr Qt := by
  have hl := h.1
  have hl1 := hl.2.1
  have hl0 := hl.1
  refine v_81 (i_touch h.1 h.2.1 hb hX (fun H1 g1 g2 g3 => ?_))
  have g := h.same g1 g3
  rw [z32_id (x := 8 * b) (by omega) (by omega)]
  refine s_setOne (by omega) hk.1 (by show 8 * (8 * b) + k < 8 * L 19; omega) (by show L 19 ≤ 1000000; omega) ?_
  rw [z32_id (x := k + 1) (by omega) (by omega)]
  refine s_setOne (by omega) (by omega) (by show 8 * (8 * b) + (k + 1) < 8 * L 19; omega) (by show L 19 ≤ 1000000; omega) ?_
  have e8 : zshr v 8 = v / 256 := zshr_eq (n := 8) (by decide) (by omega) (by omega)
  rw [show 8 * (8 * b) + (k + 1) = 64 * b + (k + 1) by omega, show 8 * (8 * b) + k = 64 * b + k by omega, e8]
  have g5 := (g.set (v := v) g2 hb (k := k) (by omega)).set (v := v / 256) (k := k + 1) (b := b) (by rw [zupB_ne (by decide)]; exact g2) hb (by omega)
  rw [← Int.add_assoc] at g5
  refine hQ _ ?_
  rw [← Int.add_assoc]
  exact g5
