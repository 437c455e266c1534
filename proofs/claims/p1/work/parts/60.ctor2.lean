/-! The class's constructor, to where all is made. -/
theorem zlen_at {L : Int → Int} {o n : Int} : zlen L o n o = n := by unfold zlen; rw [if_pos rfl]
theorem zlen_ne {L : Int → Int} {o n q : Int} (h : q ≠ o) : zlen L o n q = L q := by unfold zlen; rw [if_neg h]
theorem k_rack {d w r : Int} {L : Int → Int} {H : zHp} {Qr Qt : Int → zS → Prop} (hk : gOK d w r) (h0 : ∀ o j, 3 ≤ o → o ≤ 11 → H o j = 0) (hQ : ∀ H', H' 3 0 = d → H' 3 1 = r + 1 → (∀ j, j ≠ 0 → j ≠ 1 → H' 3 j = 0) → (∀ x, H' 4 x = if 0 ≤ x ∧ x < d then 1 else 0) → (∀ o j, o ≠ 3 → o ≠ 4 → H' o j = H o j) → Qr 0 (22, zlen (zlen (zlen (zlen (zlen (zlen (zlen (zlen L 4 d) 5 (d * (r + 1))) 6 (d * (r + 1))) 7 (d * (r + 1))) 8 (8 * (d * (r + 1)))) 9 (9 * (d * (r + 1)))) 10 9) 11 8, H')) : zEnds 0 17 0 [(22, 3), (0, d), (0, r), (9, 0), (9, 0)] [] (6, L, H) Qr Qt := by
  obtain ⟨d1, d2, w1, w2, wd, r1, r2⟩ := hk
  have c1 : d * (r + 1) ≤ 16 * (r + 1) := Int.mul_le_mul_of_nonneg_right d2 (by omega)
  have c2 : 0 ≤ d * (r + 1) := Int.mul_nonneg (by omega) (by omega)
  refine w_17_0 ?_
  rw [z32_id (x := r + 1) (by omega) (by omega), zupd_at, z32_id (x := d * (r + 1)) (by omega) (by omega)]
  have f1 : ∀ o j, o ≠ 3 → zupd (zupd H 3 0 d) 3 1 (r + 1) o j = H o j := fun o j ho => by rw [zupd_ne ho, zupd_ne ho]
  have f2 : zupd (zupd H 3 0 d) 3 1 (r + 1) 3 0 = d := by rw [zupd_no (by omega), zupd_at]
  have f3 : zupd (zupd H 3 0 d) 3 1 (r + 1) 3 1 = r + 1 := zupd_at
  have f4 : ∀ j, j ≠ 0 → j ≠ 1 → zupd (zupd H 3 0 d) 3 1 (r + 1) 3 j = 0 := fun j j0 j1 => by rw [zupd_no (by omega), zupd_no (by omega)]; exact h0 3 j (by omega) (by omega)
  generalize zupd (zupd H 3 0 d) 3 1 (r + 1) = K at f1 f2 f3 f4
  generalize d * (r + 1) = c at c1 c2 hQ
  refine ⟨⟨by omega, fun j => by rw [f1 4 j (by decide)]; exact h0 4 j (by omega) (by omega)⟩, ⟨rfl, rfl⟩, ?_⟩
  have loop : ∀ (n : Nat) (x : Int) (G : zHp), 0 ≤ x → x + n = d → (∀ o j, o ≠ 4 → G o j = K o j) → (∀ y, G 4 y = if 0 ≤ y ∧ y < x then 1 else 0) → zEnds 0 17 33 [(22, 3), (0, d), (9, 0), (0, c), (0, x)] [] (8, zlen L 4 d, G) Qr Qt := by
    intro n
    induction n with
    | zero =>
      intro x G x0 x1 g1 g2
      have ex : x = d := by omega
      rw [ex] at g2
      have z : ∀ o j, 5 ≤ o → o ≤ 11 → G o j = 0 := fun o j o0 o1 => by rw [g1 o j (by omega), f1 o j (by omega)]; exact h0 o j (by omega) o1
      refine w_17_33 ⟨fun _ => ⟨⟨by omega, fun j => z 5 j (by omega) (by omega)⟩, ⟨rfl, rfl⟩, ⟨by omega, fun j => z 6 j (by omega) (by omega)⟩, ⟨rfl, rfl⟩, ⟨by omega, fun j => z 7 j (by omega) (by omega)⟩, ⟨rfl, rfl⟩, ⟨?_, fun j => z 8 j (by omega) (by omega)⟩, ⟨rfl, rfl⟩, ⟨?_, fun j => z 9 j (by omega) (by omega)⟩, ⟨rfl, rfl⟩, ⟨by omega, fun j => z 10 j (by omega) (by omega)⟩, ⟨rfl, rfl⟩, ⟨by omega, fun j => z 11 j (by omega) (by omega)⟩, ⟨rfl, rfl⟩, ?_⟩, fun u => absurd (by omega) u⟩
      · rw [z32_id (by omega) (by omega)]; omega
      · rw [z32_id (by omega) (by omega)]; omega
      · rw [z32_id (x := 8 * c) (by omega) (by omega), z32_id (x := 9 * c) (by omega) (by omega)]
        exact hQ G (by rw [g1 3 0 (by decide)]; exact f2) (by rw [g1 3 1 (by decide)]; exact f3) (fun j j0 j1 => by rw [g1 3 j (by decide)]; exact f4 j j0 j1) g2 (fun o j o1 o2 => by rw [g1 o j o2, f1 o j o1])
    | succ n ih =>
      intro x G x0 x1 g1 g2
      refine w_17_33 ⟨fun u => by omega, fun _ => ⟨by decide, ⟨⟨x0, by rw [zlen_at]; omega⟩, Or.inr rfl⟩, ?_⟩⟩
      rw [z32_id (x := x + 1) (by omega) (by omega)]
      refine ih (x + 1) _ (by omega) (by omega) (fun o j ho => by rw [zupd_ne ho]; exact g1 o j ho) (fun y => ?_)
      by_cases e : y = x
      · rw [e, zupd_at, if_pos (by omega)]
      · rw [zupd_no (fun u => e u.2), g2]
        by_cases e2 : 0 ≤ y ∧ y < x
        · rw [if_pos e2, if_pos (by omega)]
        · rw [if_neg e2, if_neg (by omega)]
  refine loop d.toNat 0 K (by omega) (by omega) (fun _ _ _ => rfl) (fun y => ?_)
  rw [if_neg (by omega), f1 4 y (by decide)]
  exact h0 4 y (by omega) (by omega)
def kD (x : Int) : Int := if 6 ≤ x ∧ x ≤ 16 then x else 8
def kW (d x : Int) : Int := if 3 ≤ x ∧ x ≤ 8 ∧ x < d then x else 3
def kR (x : Int) : Int := if 48 ≤ x ∧ x ≤ 64 then x else 48
theorem k_ok (a b c : Int) : gOK (kD a) (kW (kD a) b) (kR c) := by
  have h1 : 6 ≤ kD a ∧ kD a ≤ 16 := by
    unfold kD
    by_cases e : 6 ≤ a ∧ a ≤ 16
    · rw [if_pos e]; exact e
    · rw [if_neg e]; omega
  have h2 : 3 ≤ kW (kD a) b ∧ kW (kD a) b ≤ 8 ∧ kW (kD a) b < kD a := by
    unfold kW
    by_cases e : 3 ≤ b ∧ b ≤ 8 ∧ b < kD a
    · rw [if_pos e]; exact e
    · rw [if_neg e]; omega
  have h3 : 48 ≤ kR c ∧ kR c ≤ 64 := by
    unfold kR
    by_cases e : 48 ≤ c ∧ c ≤ 64
    · rw [if_pos e]; exact e
    · rw [if_neg e]; omega
  exact ⟨h1.1, h1.2, h2.1, h2.2.1, h2.2.2, h3.1, h3.2⟩
/-- all is made, nothing laid out -/
def kMade (d w r : Int) (L L' : Int → Int) (H H' : zHp) : Prop := gS d w r (80, L', H') ∧ (∀ x, H' 4 x = if 0 ≤ x ∧ x < d then 1 else 0) ∧ (∀ o j, 5 ≤ o → ¬ (o = 18 ∧ j = 1) → H' o j = 0) ∧ (∀ j, H' 0 j = 0) ∧ (∀ j, j ≠ 0 → j ≠ 1 → H' 3 j = 0) ∧ (∀ o j, o < 0 → H' o j = H o j) ∧ (∀ o, o < 0 ∨ 35 ≤ o → L' o = L o)
theorem k_class {x1 x2 x3 : Int} {L : Int → Int} {H : zHp} {Qr Qt : Int → zS → Prop} (h0 : ∀ o j, 0 ≤ o → H o j = 0) (hQ : ∀ L' H', kMade (kD x1) (kW (kD x1) x2) (kR x3) L L' H H' → zEnds 0 145 234 [(20, 0), (0, x1), (0, x2), (0, x3), (0, kD x1), (0, kW (kD x1) x2), (0, kR x3)] [] (80, L', H') Qr Qt) : zEnds 0 145 0 [(20, 0), (0, x1), (0, x2), (0, x3), (9, 0), (9, 0), (9, 0)] [] (1, L, H) Qr Qt := by
  have hk := k_ok x1 x2 x3
  have s68 : ∀ d w r, gOK d w r → (∀ L' H', kMade d w r L L' H H' → zEnds 0 145 234 [(20, 0), (0, x1), (0, x2), (0, x3), (0, d), (0, w), (0, r)] [] (80, L', H') Qr Qt) → zEnds 0 145 68 [(20, 0), (0, x1), (0, x2), (0, x3), (0, d), (0, w), (0, r)] [] (1, L, H) Qr Qt := by
    intro d w r hk hQ
    have hB := gBl_le hk
    obtain ⟨p1, p2, p3, p4⟩ := gPo_rg hk
    have hsp := gSpots hk
    have hb0 : 0 ≤ r * gGr d w * (w - 1) := Int.mul_nonneg (Int.mul_nonneg (by have := hk.2.2.2.2.2.1; omega) (by omega)) (by have := hk.2.2.1; omega)
    refine w_145_68 ⟨fun j => h0 1 j (by decide), k_layout hk (fun j => h0 1 j (by decide)) (fun j => h0 2 j (by decide)) (fun H1 g1 g2 => ?_)⟩
    refine w_145_82 ⟨⟨rfl, rfl⟩, fun j => by rw [g2 3 j (by decide) (by decide)]; exact h0 3 j (by decide), k_rack hk (fun o j o1 o2 => by rw [g2 o j (by omega) (by omega)]; exact h0 o j (by omega)) (fun H2 q1 q2 q3 q4 q5 => ?_)⟩
    have z : ∀ o j, 5 ≤ o → H2 o j = 0 := fun o j ho => by rw [q5 o j (by omega) (by omega), g2 o j (by omega) (by omega)]; exact h0 o j (by omega)
    have e1 : ∀ j, H2 1 j = H1 1 j := fun j => q5 1 j (by decide) (by decide)
    have e16 : H2 1 6 = r * gPo d w := by rw [e1]; exact g1.1.2.2.2.2.2.2.1
    have e17 : H2 1 7 = r * gGr d w * (w - 1) := by rw [e1]; exact g1.1.2.2.2.2.2.2.2.1
    refine w_145_97 ⟨⟨rfl, rfl⟩, fun j => z 12 j (by decide), by decide, by decide, w_37_0 ⟨⟨rfl, rfl⟩, ⟨rfl, rfl⟩, ⟨by rw [e16]; omega, fun j => z 13 j (by decide)⟩, ⟨rfl, rfl⟩, ⟨by omega, fun j => z 14 j (by decide)⟩, ⟨rfl, rfl⟩, ⟨by omega, fun j => z 15 j (by decide)⟩, ⟨rfl, rfl⟩, ?_⟩⟩
    refine w_145_116 ⟨⟨rfl, rfl⟩, fun j => z 16 j (by decide), by decide, by decide, by decide, w_61_0 ⟨⟨rfl, rfl⟩, ⟨rfl, rfl⟩, ⟨rfl, rfl⟩, ⟨by omega, fun j => z 17 j (by decide)⟩, ⟨rfl, rfl⟩, ?_⟩⟩
    refine w_145_139 ⟨⟨rfl, rfl⟩, fun j => z 18 j (by decide), by decide, ?_⟩
    rw [e17]
    have z2 : ∀ o j, 5 ≤ o → ¬ (o = 18 ∧ j = 1) → zupd H2 18 1 (r * gGr d w * (w - 1)) o j = 0 := fun o j ho hj => by rw [zupd_no hj]; exact z o j ho
    have z3 : ∀ o j, o ≠ 18 → zupd H2 18 1 (r * gGr d w * (w - 1)) o j = H2 o j := fun o j ho => zupd_ne ho
    have z4 : zupd H2 18 1 (r * gGr d w * (w - 1)) 18 1 = r * gGr d w * (w - 1) := zupd_at
    have e8 : z32 (8 * (r * gGr d w * (w - 1))) = 8 * (r * gGr d w * (w - 1)) := z32_id (by omega) (by omega)
    refine w_75_0 ?_
    generalize zupd H2 18 1 (r * gGr d w * (w - 1)) = H3 at z2 z3 z4
    rw [e8]
    refine ⟨⟨by omega, fun j => z2 19 j (by decide) (by omega)⟩, ⟨rfl, rfl⟩, ⟨by omega, fun j => z2 20 j (by decide) (by omega)⟩, ⟨rfl, rfl⟩, ⟨by omega, fun j => z2 21 j (by decide) (by omega)⟩, ⟨rfl, rfl⟩, ⟨by omega, fun j => z2 22 j (by decide) (by omega)⟩, ⟨rfl, rfl⟩, ⟨by omega, fun j => z2 23 j (by decide) (by omega)⟩, ⟨rfl, rfl⟩, ⟨by omega, fun j => z2 24 j (by decide) (by omega)⟩, ⟨rfl, rfl⟩, ⟨by omega, fun j => z2 25 j (by decide) (by omega)⟩, ⟨rfl, rfl⟩, ?_⟩
    refine w_145_157 ⟨⟨rfl, rfl⟩, fun j => z2 26 j (by decide) (by omega), by decide, w_99_0 ⟨⟨rfl, rfl⟩, ?_⟩⟩
    refine w_145_172 ⟨⟨rfl, rfl⟩, fun j => z2 27 j (by decide) (by omega), by decide, by decide, w_120_0 ⟨⟨rfl, rfl⟩, ⟨rfl, rfl⟩, ⟨by omega, fun j => z2 28 j (by decide) (by omega)⟩, ⟨rfl, rfl⟩, ?_⟩⟩
    refine w_145_191 ⟨⟨rfl, rfl⟩, fun j => z2 29 j (by decide) (by omega), by decide, by decide, by decide, w_137_0 ⟨⟨rfl, rfl⟩, ⟨rfl, rfl⟩, ⟨rfl, rfl⟩, ⟨by omega, fun j => z2 30 j (by decide) (by omega)⟩, ⟨rfl, rfl⟩, ⟨by omega, fun j => z2 31 j (by decide) (by omega)⟩, ⟨rfl, rfl⟩, ⟨by omega, fun j => z2 32 j (by decide) (by omega)⟩, ⟨rfl, rfl⟩, ?_⟩⟩
    refine w_145_214 ⟨⟨rfl, rfl⟩, ⟨by omega, fun j => z2 33 j (by decide) (by omega)⟩, ⟨rfl, rfl⟩, ⟨by omega, fun j => z2 34 j (by decide) (by omega)⟩, ⟨rfl, rfl⟩, hQ _ H3 ⟨⟨hk, ?_, show gNum d w r H3 from ?_, show gBo H3 from ?_⟩, ?_, z2, ?_, ?_, ?_, ?_⟩⟩
    · unfold gLen
      rw [e16]
      simp [zlen]
    · refine ⟨⟨?_, ?_, ?_, ?_, ?_, ?_, ?_, ?_, ?_⟩, fun i i0 i1 => ?_, ?_, ?_, z4⟩
      · rw [z3 1 0 (by decide), e1]; exact g1.1.1
      · rw [z3 1 1 (by decide), e1]; exact g1.1.2.1
      · rw [z3 1 2 (by decide), e1]; exact g1.1.2.2.1
      · rw [z3 1 3 (by decide), e1]; exact g1.1.2.2.2.1
      · rw [z3 1 4 (by decide), e1]; exact g1.1.2.2.2.2.1
      · rw [z3 1 5 (by decide), e1]; exact g1.1.2.2.2.2.2.1
      · rw [z3 1 6 (by decide)]; exact e16
      · rw [z3 1 7 (by decide)]; exact e17
      · rw [z3 1 9 (by decide), e1]; exact g1.1.2.2.2.2.2.2.2.2
      · rw [z3 2 i (by decide), q5 2 i (by decide) (by decide)]; exact g1.2 i i0 i1
      · rw [z3 3 0 (by decide)]; exact q1
      · rw [z3 3 1 (by decide)]; exact q2
    · intro o i ho
      rcases ho with ho | ho | ho | ho | ho | ho
      · rw [ho, z3 4 i (by decide), q4]
        by_cases c : 0 ≤ i ∧ i < d
        · rw [if_pos c]; exact Or.inr rfl
        · rw [if_neg c]; exact Or.inl rfl
      · rw [ho, z2 5 i (by decide) (by omega)]; exact Or.inl rfl
      · rw [ho, z2 6 i (by decide) (by omega)]; exact Or.inl rfl
      · rw [ho, z2 22 i (by decide) (by omega)]; exact Or.inl rfl
      · rw [ho, z2 23 i (by decide) (by omega)]; exact Or.inl rfl
      · rw [ho.1, z3 0 i (by decide), q5 0 i (by decide) (by decide), g2 0 i (by decide) (by decide), h0 0 i (by decide)]; exact Or.inl rfl
    · intro x
      rw [z3 4 x (by decide)]; exact q4 x
    · intro j
      rw [z3 0 j (by decide), q5 0 j (by decide) (by decide), g2 0 j (by decide) (by decide)]; exact h0 0 j (by decide)
    · intro j j0 j1
      rw [z3 3 j (by decide)]; exact q3 j j0 j1
    · intro o j ho
      rw [z3 o j (by omega), q5 o j (by omega) (by omega), g2 o j (by omega) (by omega)]
    · intro o ho
      rw [zlen_ne (by omega), zlen_ne (by omega), zlen_ne (by omega), zlen_ne (by omega), zlen_ne (by omega), zlen_ne (by omega), zlen_ne (by omega), zlen_ne (by omega), zlen_ne (by omega), zlen_ne (by omega), zlen_ne (by omega), zlen_ne (by omega), zlen_ne (by omega), zlen_ne (by omega), zlen_ne (by omega), zlen_ne (by omega), zlen_ne (by omega), zlen_ne (by omega), zlen_ne (by omega), zlen_ne (by omega), zlen_ne (by omega), zlen_ne (by omega), zlen_ne (by omega), zlen_ne (by omega), zlen_ne (by omega), zlen_ne (by omega)]
  have s48 : zEnds 0 145 48 [(20, 0), (0, x1), (0, x2), (0, x3), (0, kD x1), (0, kW (kD x1) x2), (9, 0)] [] (1, L, H) Qr Qt := by
    refine w_145_48 ⟨fun z => ?_, fun z => ⟨fun y => ?_, fun y => ?_⟩⟩
    · have e : kR x3 = 48 := if_neg (by omega)
      rw [e] at hQ hk
      exact s68 _ _ _ hk hQ
    · have e : kR x3 = 48 := if_neg (by omega)
      rw [e] at hQ hk
      exact s68 _ _ _ hk hQ
    · have e : kR x3 = x3 := if_pos (by omega)
      rw [e] at hQ hk
      exact s68 _ _ _ hk hQ
  have s24 : zEnds 0 145 24 [(20, 0), (0, x1), (0, x2), (0, x3), (0, kD x1), (9, 0), (9, 0)] [] (1, L, H) Qr Qt := by
    refine w_145_24 ⟨fun z => ?_, fun z => ⟨fun y => ?_, fun y => ⟨fun u => ?_, fun u => ?_⟩⟩⟩
    · have e : kW (kD x1) x2 = 3 := if_neg (by omega)
      rw [e] at s48
      exact s48
    · have e : kW (kD x1) x2 = 3 := if_neg (by omega)
      rw [e] at s48
      exact s48
    · have e : kW (kD x1) x2 = 3 := if_neg (by omega)
      rw [e] at s48
      exact s48
    · have e : kW (kD x1) x2 = x2 := if_pos (by omega)
      rw [e] at s48
      exact s48
  refine w_145_0 ⟨fun z => ?_, fun z => ⟨fun y => ?_, fun y => ?_⟩⟩
  · have e : kD x1 = 8 := if_neg (by omega)
    rw [e] at s24
    exact s24
  · have e : kD x1 = 8 := if_neg (by omega)
    rw [e] at s24
    exact s24
  · have e : kD x1 = x1 := if_pos (by omega)
    rw [e] at s24
    exact s24
