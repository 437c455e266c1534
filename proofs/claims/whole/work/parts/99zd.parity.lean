/-! The parity of a new rack. -/
/-- a reference that goes with a new rack -/
def mStar (d r : Int) (H : zHp) : zHp := fun q i => if q = 37 then H 4 i else if q = 38 then 1 else if q = 39 then H 7 (gCe r (i / 65) (i % 65)) else if q = 41 then gDk d (i / 16) (i % 16) else if q = 35 then (if i = 12 then 1 else if i = 13 then -1 else if i = 14 then H 3 10 else 0) else 0
section PARITY
variable {d w r : Int} {t : Nat} {L : Int → Int} {H M X : zHp} {Qr Qt : Int → zS → Prop} {C : Int → Int → Int}
/-- the new rack's content -/
def kPar (d w r : Int) (C : Int → Int → Int) (H : zHp) : Prop := vR C ∧ (∀ f, 0 ≤ f → f + w ≤ r * gPo d w → f % w = 0 → vP w C f) ∧ ∀ s i, 0 ≤ s → s < r * gPo d w → 0 ≤ i → i < 8 → H 8 (8 * gCe r (gHome d w s) (s / gPo d w) + i) = C s i
theorem vS_new (hk : gOK d w r) (hF : gFr d w r H) (hP : kPar d w r C H) : vS d w r C H (mStar d r H) := by
  obtain ⟨⟨f1, f2, f3, f4, f5⟩, f6, f7, f8⟩ := hF
  obtain ⟨p1, p2, p3⟩ := hP
  have po := gPo_rg hk
  have w3 := hk.2.2.1
  have r48 := hk.2.2.2.2.2.1
  have r64 := hk.2.2.2.2.2.2
  have d16 := hk.2.1
  have home : ∀ s, 0 ≤ s → s < r * gPo d w → (0 ≤ gHome d w s ∧ gHome d w s < d) ∧ H 5 (gCe r (gHome d w s) (s / gPo d w)) = 1 ∧ H 7 (gCe r (gHome d w s) (s / gPo d w)) = s % gPo d w + 1 := fun s s0 s1 => by
    have q := gSp_rg hk ⟨s0, s1⟩
    have hg := gDk_rg (row := s / gPo d w) (pos := s % gPo d w) hk
    have cr := gCe_rg hk hg (o := s / gPo d w) (by omega)
    refine ⟨hg, f2 _ cr.1 (by have := cr.2.1; unfold gHome; omega), ?_⟩
    have a := f7 (s / gPo d w) (s % gPo d w) q.1.1 q.1.2 q.2.1.1 (by omega)
    rw [if_pos q.2.1.2] at a
    exact a
  have so : ∀ s, 0 ≤ s → s < r * gPo d w → gSound d w r H s := fun s s0 s1 => by
    have h := home s s0 s1
    refine ⟨by rw [f6 s s0 s1]; omega, ?_, ?_⟩
    · unfold gAt
      rw [f6 s s0 s1, h.2.1]
      decide
    · exact f3 _
  refine ⟨⟨⟨⟨p1, fun s s0 s1 _ => ?_⟩, fun s s0 s1 _ => f6 s s0 s1, fun row q r0 r1 q0 q1 _ tg => ?_, fun x _ _ => f3 _, fun s u s0 s1 _ _ _ _ => Or.inl (so s s0 s1)⟩, fun x x0 x1 _ => f8 x x0 x1, p2⟩, ⟨fun x _ _ => rfl, fun x o x0 x1 o0 o1 => ?_, fun j => by rw [f4]; rfl, fun j => ⟨by show (-128 : Int) ≤ 0; decide, by show (0 : Int) ≤ 127; decide⟩⟩, ⟨by rw [f1]; rfl, by rw [f1]; decide, rfl⟩, ⟨rfl, rfl⟩, fun s s0 s1 => ?_⟩
  · have h := home s s0 s1
    unfold gAt
    rw [f6 s s0 s1, h.2.1]
    exact ⟨⟨by decide, h.2.2, Or.inl rfl⟩, fun i i0 i1 => p3 s i s0 s1 i0 i1⟩
  · have a := f7 row q r0 r1 (by omega) q1
    rw [if_neg (by omega)] at a
    exact absurd a tg
  · have cr := gCe_rg hk ⟨x0, x1⟩ ⟨o0, o1⟩
    refine ⟨⟨fun _ => ⟨?_, ?_⟩, fun _ => by rw [f2 _ cr.1 (by omega)]; decide⟩, fun _ _ => ?_, fun k k0 k1 => ?_, ⟨fun z => absurd (f3 _) z, ?_⟩⟩
    · show H 4 x ≠ 0
      rw [f5 x x0 x1]; decide
    · show (1 : Int) ≠ 0
      decide
    · show _ = H 7 (gCe r ((65 * x + o) / 65) ((65 * x + o) % 65))
      rw [show (65 * x + o) / 65 = x by omega, show (65 * x + o) % 65 = o by omega]
    · have z : zB8 H 9 (72 * gCe r x o + k) = 0 := by
        unfold zB8
        rw [f4]
        have : ∀ y : Nat, (0 : Int) % 18446744073709551616 / (y : Int) % 256 = 0 := fun y => by rw [show (0 : Int) % 18446744073709551616 = 0 from rfl, Int.zero_ediv]; rfl
        exact this _
      rw [z]
      by_cases c : mStar d r H 37 x ≠ 0 ∧ k < 70
      · rw [if_pos c]; rfl
      · rw [if_neg c]
    · rintro ⟨j, -, -, z⟩
      exact absurd (f4 _) z
  · have q := gSp_rg hk ⟨s0, s1⟩
    rw [f6 s s0 s1]
    unfold mPs mPl
    rw [if_neg (by show ¬ (1 : Int) = 0; decide)]
    show _ = gDk d ((16 * (s / gPo d w) + s % gPo d w) / 16) ((16 * (s / gPo d w) + s % gPo d w) % 16)
    rw [show (16 * (s / gPo d w) + s % gPo d w) / 16 = s / gPo d w by omega, show (16 * (s / gPo d w) + s % gPo d w) % 16 = s % gPo d w by omega]
    rfl
/-- a store on a new rack -/
theorem fSt_new {b at' : Int} {V : Int → Int → Int} (h : gI d w r t L H) (hF : gFr d w r H) (hD : gDat d w r V H) (hb : 0 ≤ b ∧ b < r * gGr d w * (w - 1)) (ha : 0 ≤ at' ∧ at' + 8 ≤ L 19 ∧ L 19 ≤ 1000000) : (fSt d w r H (gSo w b) 19 at').1 = 1 ∧ gI d w r t L (fSt d w r H (gSo w b) 19 at').2 ∧ gFr d w r (fSt d w r H (gSo w b) 19 at').2 ∧ gDat d w r (vU V b (fun i => H 19 (at' + i))) (fSt d w r H (gSo w b) 19 at').2 ∧ ∀ q i, q ≠ 3 → q ≠ 5 → q ≠ 7 → q ≠ 8 → q ≠ 14 → q ≠ 15 → (fSt d w r H (gSo w b) 19 at').2 q i = H q i := by
  have a := k_store h hF hD hb ha (Qr := fun v S => v = 1 ∧ ∃ H', S = (t, L, H') ∧ gI d w r t L H' ∧ gFr d w r H' ∧ gDat d w r (vU V b (fun i => H 19 (at' + i))) H' ∧ ∀ q i, q ≠ 3 → q ≠ 5 → q ≠ 7 → q ≠ 8 → q ≠ 14 → q ≠ 15 → H' q i = H q i) (Qt := fun _ _ => False) (fun H' x1 x2 x3 x4 _ => ⟨rfl, H', rfl, x1, x2, x3, x4⟩)
  have c := f_store h hb (Or.inl rfl) ha (Qr := fun v S => v = (fSt d w r H (gSo w b) 19 at').1 ∧ S = (t, L, (fSt d w r H (gSo w b) 19 at').2)) (Qt := fun _ _ => False) ⟨rfl, rfl⟩
  refine zEnds.pure (Q := fun _ _ => True) ((zEnds_and a c).imp ?_ (fun _ _ u => u.1))
  rintro v S ⟨⟨e1, H', e2, x⟩, e3, e4⟩
  have e5 : H' = (fSt d w r H (gSo w b) 19 at').2 := by
    rw [e4] at e2
    injection e2 with e6 e7
    injection e7 with e8 e9
    exact e9.symm
  rw [e5] at x
  exact ⟨⟨by rw [← e3]; exact e1, x⟩, trivial⟩
/-- and its parity -/
theorem kPar.store {b at' : Int} {V : Int → Int → Int} (h : gI d w r t L H) (hF : gFr d w r H) (hD : gDat d w r V H) (hb : 0 ≤ b ∧ b < r * gGr d w * (w - 1)) (ha : 0 ≤ at' ∧ at' + 8 ≤ L 19 ∧ L 19 ≤ 1000000) (hP : kPar d w r C H) (hW : ∀ i, 0 ≤ i → i < 8 → z64 (H 19 (at' + i)) = H 19 (at' + i)) : ∃ C', kPar d w r C' (fSt d w r H (gSo w b) 19 at').2 := by
  have hk := h.1.1
  obtain ⟨n1, n2, n3, n4, n5⟩ := fSt_new h hF hD hb ha
  obtain ⟨alt, -⟩ := v_store (wm := 53) (fr := 0) h (vS_new hk hF hP) hb (Or.inl rfl) hW (by decide)
  rcases alt with ⟨-, -, e, -⟩ | ⟨e, -⟩
  · refine ⟨_, e.1.1.1.1, e.1.2.2, fun s i s0 s1 i0 i1 => ?_⟩
    have h13 := n3.2.1 s s0 s1
    have g := gDk_rg (row := s / gPo d w) (pos := s % gPo d w) hk
    have a := (e.1.1.1.2 s s0 s1 (by rw [h13]; unfold gHome; omega)).2 i i0 i1
    unfold gAt at a
    rw [h13] at a
    exact a
  · rw [n1] at e
    cases e
theorem k_par {x1 x2 x3 : Int} (h0 : ∀ o j, 0 ≤ o → H o j = 0) : zEnds 0 145 0 [(20, 0), (0, x1), (0, x2), (0, x3), (9, 0), (9, 0), (9, 0)] [] (1, L, H) (fun _ S => (∀ j, z64 (S.2.2 19 j) = S.2.2 19 j) → ∃ C, kPar (kD x1) (kW (kD x1) x2) (kR x3) C S.2.2) (fun _ _ => False) := by
  refine k_class h0 (fun L' H' hm => ?_)
  obtain ⟨hS, h4, hz, h00, h3, hneg, hlen⟩ := hm
  refine zEnds_md (md := 80) (T := 80) (fun r ci k ft tg tm _ _ h => Nat.le_of_ble_eq_true h) (Nat.le_refl 80) ?_
  refine v_145_234 ?_
  generalize kD x1 = d at *
  generalize kW d x2 = w at *
  generalize kR x3 = r at *
  have hk := hS.1
  have hl := gLen.i hk hS.2.1
  have hB2 := gBl_ge hk
  refine k_layOut hS (fun x x0 x1 => by rw [h4, if_pos ⟨x0, x1⟩]) (h3 11 (by decide) (by decide)) (fun o j ho => hz o j (by omega) (by omega)) (fun H1 i1 f1 z8 e1 e13 => ?_)
  have n1 : H1 18 1 = r * gGr d w * (w - 1) := i1.1.2.2.1.2.2.2.2
  have l19 : L' 19 = 8 * (r * gGr d w * (w - 1)) := hl.2.1
  have bl := gBl_le hk
  have z1 : ∀ o j, 14 ≤ o → ¬ (o = 18 ∧ j = 1) → H1 o j = 0 := fun o j ho hj => by rw [e1 o j (by omega) (by omega) (by omega) (by omega) (by omega)]; exact hz o j (by omega) hj
  refine k_imageLay hl n1 (z1 18 8 (by decide) (by decide)) (fun o j ho => z1 o j (by omega) (by omega)) (fun β H2 g1 g2 g3 g4 g5 g6 gm g7 => ?_)
  have i2 : gI d w r 80 L' H2 := i1.keep (fun q i hq => g7 q i (by unfold iFr; omega)) (fun q i hq => by
    rcases hq with u | u | u
    · rw [u]; exact (g5 i).1
    · rw [u]; exact (g5 i).2
    · rw [u.1, u.2, g7 0 11 (by unfold iFr; omega), e1 0 11 (by decide) (by decide) (by decide) (by decide) (by decide)]; exact Or.inl (h00 11))
  have f2 : gFr d w r H2 := f1.keep (fun q i hq => g7 q i (by unfold iFr; omega))
  have d2 : gDat d w r (fun _ _ => 0) H2 := fun s i s0 s1 s2 j0 j1 => by rw [g7 8 _ (by unfold iFr; omega)]; exact z8 _
  have p2 : kPar d w r (fun _ _ => 0) H2 := by
    refine ⟨fun _ _ => rfl, fun f _ _ _ i _ _ => ?_, fun s i _ _ _ _ => by rw [g7 8 _ (by unfold iFr; omega)]; exact z8 _⟩
    have key : ∀ (n : Nat) (a : Int), gXs (fun _ => True) (fun _ => (0 : Int)) a n 0 = 0 := by
      intro n
      induction n with
      | zero => intro a; rfl
      | succ n ih =>
        intro a
        rw [gXs_yes trivial, zlxor_zero (by rfl)]
        exact ih (a + 1)
    exact key _ _
  obtain ⟨a1, a2, a3, a4, a5⟩ := fSt_new i2 f2 d2 (b := 25) (at' := 200) (by omega) (by omega)
  refine f_store i2 (b := 25) (at' := 200) (by omega) (Or.inl rfl) (by omega) ?_
  obtain ⟨b1, b2, b3, b4, b5⟩ := fSt_new a2 a3 a4 (b := 57) (at' := 456) (by omega) (by omega)
  refine f_store a2 (b := 57) (at' := 456) (by omega) (Or.inl rfl) (by omega) ?_
  generalize hH3 : (fSt d w r H2 (gSo w 25) 19 200).2 = H3 at a2 a3 a4 a5 b1 b2 b3 b4 b5
  generalize hH4 : (fSt d w r H3 (gSo w 57) 19 456).2 = H4 at b2 b3 b4 b5
  have q4 : ∀ q i, q ≠ 3 → q ≠ 5 → q ≠ 7 → q ≠ 8 → q ≠ 14 → q ≠ 15 → H4 q i = H2 q i := fun q i c1 c2 c3 c4 c5 c6 => by rw [b5 q i c1 c2 c3 c4 c5 c6]; exact a5 q i c1 c2 c3 c4 c5 c6
  have p19 : ∀ i, H4 19 i = H2 19 i := fun i => q4 19 i (by decide) (by decide) (by decide) (by decide) (by decide) (by decide)
  have p22 : ∀ i, H4 22 i = H2 22 i := fun i => q4 22 i (by decide) (by decide) (by decide) (by decide) (by decide) (by decide)
  have p23 : ∀ i, H4 23 i = H2 23 i := fun i => q4 23 i (by decide) (by decide) (by decide) (by decide) (by decide) (by decide)
  have s4 : fS H4 (r * gGr d w * (w - 1)) 0 [] β L' H4 := ⟨hl, iT.rest (by rw [q4 18 1 (by decide) (by decide) (by decide) (by decide) (by decide) (by decide), g7 18 1 (by unfold iFr; omega)]; exact n1) (by rw [q4 18 8 (by decide) (by decide) (by decide) (by decide) (by decide) (by decide)]; exact g3) (fun b b0 b1 => by rw [p23]; exact g4 b b0 b1) (fun b => by rw [p22, p23]; exact g5 b), fun j hj => by
    rw [← g2 j hj]
    unfold zB8
    rw [p19]⟩
  refine k_settle s4 (fun H5 m1 m2 m3 m4 m5 => v_21 ⟨Or.inr rfl, fun z19 => ?_⟩)
  have e19 : ∀ j, z64 (H2 19 j) = H2 19 j := fun j => by
    have := z19 j
    have e : zupd (zupd H5 3 10 0) 0 11 1 19 j = H2 19 j := by rw [zupd_ne (by decide), zupd_ne (by decide), m5 19 j (by decide) (by decide), p19]
    rw [← e]
    exact this
  obtain ⟨C3, P3⟩ := kPar.store i2 f2 d2 (b := 25) (at' := 200) (by omega) (by omega) p2 (fun i _ _ => e19 _)
  rw [hH3] at P3
  obtain ⟨C4, P4⟩ := kPar.store a2 a3 a4 (b := 57) (at' := 456) (by omega) (by omega) P3 (fun i _ _ => by rw [a5 19 _ (by decide) (by decide) (by decide) (by decide) (by decide) (by decide)]; exact e19 _)
  rw [hH4] at P4
  refine ⟨C4, P4.1, P4.2.1, fun s i s0 s1 i0 i1 => ?_⟩
  show zupd (zupd H5 3 10 0) 0 11 1 8 _ = _
  rw [zupd_ne (by decide), zupd_ne (by decide), m5 8 _ (by decide) (by decide)]
  exact P4.2.2 s i s0 s1 i0 i1
end PARITY
