/-! The reference as new: its tree, and all of it. -/
theorem mBy_V {B b k : Int} {A : aSt} {V V' : Int → Int} (hb : 25 ≤ b) (ho : A.2.1 b ≠ 0) : mBy B A V b k = mBy B A V' b k := by
  have c : ¬ (b < 25 ∨ A.2.1 b = 0) := by omega
  unfold mBy
  rw [if_neg c, if_neg c]
theorem nN0_N {B : Int} : aN B nN0 := by
  intro i i0 i1
  have e : ∀ x, nN0 (20 * i + x) = if 20 * i + x = 0 then 2 else 0 := fun x => nN0_at
  have e0 : nN0 (20 * i) = if 20 * i = 0 then 2 else 0 := nN0_at
  have e1 : nN0 (20 * i + 1) = 0 := by rw [e, if_neg (by omega)]
  have e2 : nN0 (20 * i + 2) = 0 := by rw [e, if_neg (by omega)]
  unfold aI
  rw [e1, e2]
  refine ⟨?_, by decide, by decide, fun x x0 x1 => by omega⟩
  rw [e0]
  by_cases c : 20 * i = 0
  · rw [if_pos c]; exact Or.inr (Or.inr rfl)
  · rw [if_neg c]; exact Or.inl rfl
section MNEW2
variable {d w r : Int} {L : Int → Int} {Qr Qt : Int → zS → Prop}
theorem k_rest {H : zHp} (h : mS d w r L H) (h45 : ∀ j, 0 ≤ j → j < 1280 → H 45 j = nN0 j) (h46 : ∀ j, H 46 j = 0) (h47 : ∀ j, H 47 j = 0)
    (hQ : ∀ G, mS d w r L G → (∀ o j, o ≠ 43 → o ≠ 46 → G o j = H o j) → (∀ j, 0 ≤ j → j < 768 → G 46 j = nO0 j) → (∀ b k, 25 ≤ b → b < 59 → 0 ≤ k → k < 64 → G 43 (64 * b + k) = mBy (r * gGr d w * (w - 1)) nA0 (fun _ => 0) b k) → (∀ j, (j < 1600 ∨ 3776 ≤ j) → G 43 j = H 43 j) → Qr 0 (117, L, G)) : zEnds 0 179 506 [(29, 35), (9, 0), (9, 0), (9, 0), (0, 0), (9, 0), (9, 0)] [] (117, L, H) Qr Qt := by
  have l43 : L 43 = 49152 := h.2.1.2.2.2.2.2.2.2.1
  have l46 : L 46 = 768 := h.2.2.1.2.1
  have vals : ∀ (n : Nat) (b : Int) (G : zHp), 25 ≤ b → b + n = 59 → mS d w r L G → (∀ o j, o ≠ 43 → o ≠ 46 → G o j = H o j) → (∀ j, 0 ≤ j → j < 768 → G 46 j = nO0 j) → (∀ x k, 25 ≤ x → x < b → 0 ≤ k → k < 64 → G 43 (64 * x + k) = mBy (r * gGr d w * (w - 1)) nA0 (fun _ => 0) x k) → (∀ j, (j < 1600 ∨ 3776 ≤ j) → G 43 j = H 43 j) → zEnds 0 179 532 [(29, 35), (9, 0), (9, 0), (9, 0), (0, b), (9, 0), (9, 0)] [] (117, L, G) Qr Qt := by
    intro n
    induction n with
    | zero =>
      intro b G b0 b1 g0 g1 g2 g3 g4
      have eb : b = 59 := by omega
      rw [eb] at g3
      exact w_179_532 ⟨fun _ => hQ G g0 g1 g2 g3 g4, fun z => absurd (by omega) z⟩
    | succ n ih =>
      intro b G b0 b1 g0 g1 g2 g3 g4
      refine w_179_532 ⟨fun z => by omega, fun _ => ?_⟩
      have inner : ∀ (m : Nat) (k : Int) (K : zHp), 0 ≤ k → k + m = 64 → mS d w r L K → (∀ o j, o ≠ 43 → o ≠ 46 → K o j = H o j) → (∀ j, 0 ≤ j → j < 768 → K 46 j = nO0 j) → (∀ x y, 25 ≤ x → x < b → 0 ≤ y → y < 64 → K 43 (64 * x + y) = mBy (r * gGr d w * (w - 1)) nA0 (fun _ => 0) x y) → (∀ y, 0 ≤ y → y < k → K 43 (64 * b + y) = mBy (r * gGr d w * (w - 1)) nA0 (fun _ => 0) b y) → (∀ j, (j < 1600 ∨ 3776 ≤ j) → K 43 j = H 43 j) → zEnds 0 179 542 [(29, 35), (9, 0), (9, 0), (9, 0), (0, b), (0, k), (9, 0)] [] (117, L, K) Qr Qt := by
        intro m
        induction m with
        | zero =>
          intro k K k0 k1 q0 q1 q2 q3 q4 q5
          refine w_179_542 ⟨fun _ => ?_, fun z => absurd (by omega) z⟩
          rw [z32_id (x := b + 1) (by omega) (by omega)]
          refine ih (b + 1) K (by omega) (by omega) q0 q1 q2 (fun x y x0 x1 y0 y1 => ?_) q5
          by_cases c : x = b
          · rw [c]; exact q4 y y0 (by omega)
          · exact q3 x y x0 (by omega) y0 y1
        | succ m ihm =>
          intro k K k0 k1 q0 q1 q2 q3 q4 q5
          have hA : mA d w r K nA0 L K := ⟨q0, fun j j0 j1 => by rw [q1 45 j (by decide) (by decide)]; exact h45 j j0 j1, q2, fun j j0 j1 => by rw [q1 47 j (by decide) (by decide)]; exact h47 j, fun _ _ _ _ _ => rfl⟩
          refine w_179_542 ⟨fun z => by omega, fun _ => ⟨by show 96 < 117; decide, zEnds_md zmd118 (Nat.le_refl 117) (m_byteOf hA nN0_N (by omega) (by omega) ?_)⟩⟩
          rw [z32_id (x := 64 * b) (by omega) (by omega), z32_id (x := 64 * b + k) (by omega) (by omega), z32_id (x := k + 1) (by omega) (by omega)]
          refine ⟨by show 0 ≤ 64 * b + k ∧ 64 * b + k < L 43; omega, ihm (k + 1) _ (by omega) (by omega) (q0.upd (by omega)) (fun o j o1 o2 => by rw [zupd_ne o1]; exact q1 o j o1 o2) (fun j j0 j1 => by rw [zupd_ne (by decide)]; exact q2 j j0 j1) (fun x y x0 x1 y0 y1 => by rw [zupd_no (by omega)]; exact q3 x y x0 x1 y0 y1) (fun y y0 y1 => ?_) (fun j hj => by rw [zupd_no (by omega)]; exact q5 j hj)⟩
          by_cases c : y = k
          · rw [c, zupd_at]
            refine mBy_V b0 ?_
            show nO0 b ≠ 0
            unfold nO0
            rw [if_pos (by omega)]
            decide
          · rw [zupd_no (by omega)]; exact q4 y y0 (by omega)
      exact inner 64 0 G (by omega) (by omega) g0 g1 g2 g3 (fun y y0 y1 => by omega) g4
  have own : ∀ (n : Nat) (b : Int) (G : zHp), 0 ≤ b → b + n = 59 → mS d w r L G → (∀ o j, o ≠ 46 → G o j = H o j) → (∀ j, G 46 j = if 0 ≤ j ∧ j < b then 100 else 0) → zEnds 0 179 506 [(29, 35), (9, 0), (9, 0), (9, 0), (0, b), (9, 0), (9, 0)] [] (117, L, G) Qr Qt := by
    intro n
    induction n with
    | zero =>
      intro b G b0 b1 g0 g1 g2
      have eb : b = 59 := by omega
      rw [eb] at g2
      exact w_179_506 ⟨fun _ => vals 34 25 G (by omega) (by omega) g0 (fun o j _ o2 => g1 o j o2) (fun j _ _ => g2 j) (fun x k x0 x1 => by omega) (fun j _ => g1 43 j (by decide)), fun z => absurd (by omega) z⟩
    | succ n ih =>
      intro b G b0 b1 g0 g1 g2
      refine w_179_506 ⟨fun z => by omega, fun _ => ⟨by show 102 < 117; decide, by show 0 ≤ b ∧ b < L 46; omega, ?_⟩⟩
      rw [z32_id (x := b + 1) (by omega) (by omega)]
      refine ih (b + 1) _ (by omega) (by omega) (g0.upd (by omega)) (fun o j o1 => by rw [zupd_ne o1]; exact g1 o j o1) (fun j => ?_)
      by_cases c : j = b
      · rw [c, zupd_at, if_pos (by omega)]
      · rw [zupd_no (fun u => c u.2)]
        show G 46 j = _
        rw [g2]
        by_cases c2 : 0 ≤ j ∧ j < b
        · rw [if_pos c2, if_pos (by omega)]
        · rw [if_neg c2, if_neg (by omega)]
  exact own 59 0 H (by omega) (by omega) h (fun _ _ _ => rfl) (fun j => by rw [if_neg (by omega)]; exact h46 j)
end MNEW2
/-- the reference as new; H0 is the heap ahead of its constructor -/
def mNew (d w r : Int) (L0 L : Int → Int) (H0 H : zHp) : Prop := mS d w r L H ∧ (H 35 12 = 1 ∧ H 35 13 = -1 ∧ H 35 19 = -1 ∧ ∀ j, j ≠ 1 → j ≠ 2 → j ≠ 3 → j ≠ 4 → j ≠ 6 → j ≠ 12 → j ≠ 13 → j ≠ 19 → H 35 j = 0) ∧
  ((∀ x, H 37 x = if 0 ≤ x ∧ x < d then 1 else 0) ∧ (∀ x o, 0 ≤ x → x < d → 0 ≤ o → o ≤ r → H 38 (65 * x + o) = 1) ∧ mPt0 d w r H) ∧
  ((∀ j, 0 ≤ j → j < 1280 → H 45 j = nN0 j) ∧ (∀ j, 0 ≤ j → j < 768 → H 46 j = nO0 j) ∧ (∀ b k, 25 ≤ b → b < 59 → 0 ≤ k → k < 64 → H 43 (64 * b + k) = mBy (r * gGr d w * (w - 1)) nA0 (fun _ => 0) b k) ∧ ∀ j, (j < 1600 ∨ 3776 ≤ j) → H 43 j = 0) ∧
  (∀ o j, (o = 40 ∨ o = 42 ∨ o = 44 ∨ 47 ≤ o) → H o j = 0) ∧ (∀ o j, o < 35 → H o j = H0 o j) ∧ ∀ o, o < 35 ∨ 54 ≤ o → L o = L0 o
theorem m_new {x1 x2 x3 : Int} {L : Int → Int} {H : zHp} {Qr Qt : Int → zS → Prop} (h0 : ∀ o j, 35 ≤ o → H o j = 0) (hQ : ∀ L' H', mNew (kD x1) (kW (kD x1) x2) (kR x3) L L' H H' → Qr 0 (117, L', H')) : zEnds 0 179 0 [(29, 35), (0, x1), (0, x2), (0, x3), (9, 0), (9, 0), (9, 0)] [] (81, L, H) Qr Qt := by
  have hk := k_ok x1 x2 x3
  have kz : ∀ o j, 36 ≤ o → zupd (zupd (zupd H 35 12 1) 35 13 (-1)) 35 19 (-1) o j = 0 := fun o j ho => by rw [zupd_ne (by omega), zupd_ne (by omega), zupd_ne (by omega)]; exact h0 o j (by omega)
  have kz2 : ∀ o j, 36 ≤ o → zupd (zupd H 35 12 1) 35 13 (-1) o j = 0 := fun o j ho => by rw [zupd_ne (by omega), zupd_ne (by omega)]; exact h0 o j (by omega)
  have a0 : ∀ n : Int, n = 16 ∨ n = 1040 ∨ n = 72800 ∨ n = 1024 ∨ n = 512 ∨ n = 49152 ∨ n = 64 ∨ n = 1280 ∨ n = 768 ∨ n = 48 ∨ n = 3072 → 0 ≤ n ∧ n ≤ 1000000 := fun n hn => by omega
  refine w_179_0 ⟨⟨a0 _ (by omega), fun j => h0 36 j (by decide)⟩, ⟨rfl, rfl⟩, ⟨a0 _ (by omega), fun j => h0 37 j (by decide)⟩, ⟨rfl, rfl⟩, ⟨a0 _ (by omega), fun j => h0 38 j (by decide)⟩, ⟨rfl, rfl⟩, ⟨a0 _ (by omega), fun j => h0 39 j (by decide)⟩, ⟨rfl, rfl⟩, ⟨a0 _ (by omega), fun j => h0 40 j (by decide)⟩, ⟨rfl, rfl⟩, ⟨a0 _ (by omega), fun j => h0 41 j (by decide)⟩, ⟨rfl, rfl⟩, Or.inr rfl, ⟨a0 _ (by omega), fun j => kz2 42 j (by decide)⟩, ⟨rfl, rfl⟩, ⟨a0 _ (by omega), fun j => kz2 43 j (by decide)⟩, ⟨rfl, rfl⟩, ⟨a0 _ (by omega), fun j => kz 44 j (by decide)⟩, ⟨rfl, rfl⟩, ⟨a0 _ (by omega), fun j => kz 45 j (by decide)⟩, ⟨rfl, rfl⟩, ⟨a0 _ (by omega), fun j => kz 46 j (by decide)⟩, ⟨rfl, rfl⟩, ⟨a0 _ (by omega), fun j => kz 47 j (by decide)⟩, ⟨rfl, rfl⟩, ⟨a0 _ (by omega), fun j => kz 48 j (by decide)⟩, ⟨rfl, rfl⟩, ⟨a0 _ (by omega), fun j => kz 49 j (by decide)⟩, ⟨rfl, rfl⟩, ⟨a0 _ (by omega), fun j => kz 50 j (by decide)⟩, ⟨rfl, rfl⟩, ⟨a0 _ (by omega), fun j => kz 51 j (by decide)⟩, ⟨rfl, rfl⟩, ⟨a0 _ (by omega), fun j => kz 52 j (by decide)⟩, ⟨rfl, rfl⟩, ⟨a0 _ (by omega), fun j => kz 53 j (by decide)⟩, ⟨rfl, rfl⟩, ?_⟩
  have hL : mL0 (zlen (zlen (zlen (zlen (zlen (zlen (zlen (zlen (zlen (zlen (zlen (zlen (zlen (zlen (zlen (zlen (zlen (zlen L 36 16) 37 16) 38 1040) 39 1040) 40 72800) 41 1024) 42 512) 43 49152) 44 64) 45 1280) 46 768) 47 49152) 48 1280) 49 768) 50 49152) 51 48) 52 3072) 53 64) := ⟨⟨rfl, rfl, rfl, rfl, rfl, rfl, rfl, rfl, rfl⟩, ⟨rfl, rfl, rfl, rfl, rfl, rfl, rfl, rfl, rfl⟩⟩
  have hL2 : ∀ o, o < 35 ∨ 54 ≤ o → (zlen (zlen (zlen (zlen (zlen (zlen (zlen (zlen (zlen (zlen (zlen (zlen (zlen (zlen (zlen (zlen (zlen (zlen L 36 16) 37 16) 38 1040) 39 1040) 40 72800) 41 1024) 42 512) 43 49152) 44 64) 45 1280) 46 768) 47 49152) 48 1280) 49 768) 50 49152) 51 48) 52 3072) 53 64) o = L o := fun o ho => by
    rw [zlen_ne (by omega), zlen_ne (by omega), zlen_ne (by omega), zlen_ne (by omega), zlen_ne (by omega), zlen_ne (by omega), zlen_ne (by omega), zlen_ne (by omega), zlen_ne (by omega), zlen_ne (by omega), zlen_ne (by omega), zlen_ne (by omega), zlen_ne (by omega), zlen_ne (by omega), zlen_ne (by omega), zlen_ne (by omega), zlen_ne (by omega), zlen_ne (by omega)]
  generalize (zlen (zlen (zlen (zlen (zlen (zlen (zlen (zlen (zlen (zlen (zlen (zlen (zlen (zlen (zlen (zlen (zlen (zlen L 36 16) 37 16) 38 1040) 39 1040) 40 72800) 41 1024) 42 512) 43 49152) 44 64) 45 1280) 46 768) 47 49152) 48 1280) 49 768) 50 49152) 51 48) 52 3072) 53 64) = L' at hL hL2
  -- the first fields
  have kk : ∀ j, zupd (zupd (zupd H 35 12 1) 35 13 (-1)) 35 19 (-1) 35 j = if j = 19 then -1 else if j = 13 then -1 else if j = 12 then 1 else 0 := fun j => by
    by_cases c1 : j = 19
    · rw [if_pos c1, c1, zupd_at]
    · rw [if_neg c1, zupd_no (fun u => c1 u.2)]
      by_cases c2 : j = 13
      · rw [if_pos c2, c2, zupd_at]
      · rw [if_neg c2, zupd_no (fun u => c2 u.2)]
        by_cases c3 : j = 12
        · rw [if_pos c3, c3, zupd_at]
        · rw [if_neg c3, zupd_no (fun u => c3 u.2)]
          exact h0 35 j (by decide)
  have kn : ∀ o j, o < 35 → zupd (zupd (zupd H 35 12 1) 35 13 (-1)) 35 19 (-1) o j = H o j := fun o j ho => by rw [zupd_ne (by omega), zupd_ne (by omega), zupd_ne (by omega)]
  generalize zupd (zupd (zupd H 35 12 1) 35 13 (-1)) 35 19 (-1) = K at kz kk kn
  generalize hde : kD x1 = d at hk hQ
  generalize hwe : kW d x2 = w at hk hQ
  generalize hre : kR x3 = r at hk hQ
  have s244 : zEnds 0 179 244 [(29, 35), (0, x1), (0, x2), (0, x3), (9, 0), (9, 0), (9, 0)] [] (117, L', zupd (zupd (zupd K 35 1 d) 35 2 w) 35 3 r) Qr Qt := by
    have e1 : zupd (zupd (zupd K 35 1 d) 35 2 w) 35 3 r 35 1 = d := by rw [zupd_no (by decide), zupd_no (by decide), zupd_at]
    have e2 : zupd (zupd (zupd K 35 1 d) 35 2 w) 35 3 r 35 2 = w := by rw [zupd_no (by decide), zupd_at]
    have hk2 := hk
    obtain ⟨d1, d2, w1, w2, wd, r1, r2⟩ := hk2
    refine w_179_244 ?_
    rw [e1, e2, z32_id (x := d - 1) (by omega) (by omega), zdiv_pos (by omega) (by omega) (by omega)]
    refine ⟨by omega, ?_⟩
    show zEnds 0 179 262 [(29, 35), (9, 0), (9, 0), (9, 0), (0, 1), (9, 0), (9, 0)] [] (117, L', zupd (zupd (zupd (zupd K 35 1 d) 35 2 w) 35 3 r) 35 4 (gGr d w)) Qr Qt
    have f0 : ∀ o j, o ≠ 35 → zupd (zupd (zupd (zupd K 35 1 d) 35 2 w) 35 3 r) 35 4 (gGr d w) o j = K o j := fun o j ho => by rw [zupd_ne ho, zupd_ne ho, zupd_ne ho, zupd_ne ho]
    have f1 : ∀ j, j ≠ 1 → j ≠ 2 → j ≠ 3 → j ≠ 4 → zupd (zupd (zupd (zupd K 35 1 d) 35 2 w) 35 3 r) 35 4 (gGr d w) 35 j = K 35 j := fun j j1 j2 j3 j4 => by rw [zupd_no (by omega), zupd_no (by omega), zupd_no (by omega), zupd_no (by omega)]
    have hN : mN0 d w r (zupd (zupd (zupd (zupd K 35 1 d) 35 2 w) 35 3 r) 35 4 (gGr d w)) := ⟨by rw [zupd_no (by decide)]; exact e1, by rw [zupd_no (by decide)]; exact e2, by rw [zupd_no (by decide), zupd_at], zupd_at⟩
    generalize zupd (zupd (zupd (zupd K 35 1 d) 35 2 w) 35 3 r) 35 4 (gGr d w) = M at f0 f1 hN
    refine k_units hk hL hN (by rw [f1 6 (by decide) (by decide) (by decide) (by decide), kk]; rfl) (fun M1 a1 a2 a3 => ?_)
    have hS1 : mS d w r L' M1 := mS.make hk hL ⟨by rw [a1 35 1 (by decide) (by decide)]; exact hN.1, by rw [a1 35 2 (by decide) (by decide)]; exact hN.2.1, by rw [a1 35 3 (by decide) (by decide)]; exact hN.2.2.1, by rw [a1 35 4 (by decide) (by decide)]; exact hN.2.2.2⟩ a2 a3
    have z1 : ∀ o j, 37 ≤ o → M1 o j = 0 := fun o j ho => by rw [a1 o j (by omega) (by omega), f0 o j (by omega)]; exact kz o j (by omega)
    refine k_fills hS1 (fun j => z1 37 j (by decide)) (fun M2 hS2 b1 b2 b3 => ?_)
    refine k_tags hS2 (fun j => by rw [b1 39 j (by decide) (by decide)]; exact z1 39 j (by decide)) (fun M3 hS3 c1 c2 => ?_)
    have z3 : ∀ o j, 37 ≤ o → o ≠ 37 → o ≠ 38 → o ≠ 39 → o ≠ 41 → M3 o j = 0 := fun o j ho n1 n2 n3 n4 => by rw [c1 o j n3 n4, b1 o j n1 n2]; exact z1 o j ho
    refine k_rest (hS3.upd (by omega)) (fun j j0 j1 => ?_) (fun j => by rw [zupd_ne (by decide)]; exact z3 46 j (by decide) (by decide) (by decide) (by decide) (by decide)) (fun j => by rw [zupd_ne (by decide)]; exact z3 47 j (by decide) (by decide) (by decide) (by decide) (by decide)) (fun M4 hS4 e1 e2 e3 e4 => hQ L' M4 ?_)
    · rw [nN0_at]
      by_cases c : j = 0
      · rw [if_pos c, c, zupd_at]
      · rw [if_neg c, zupd_no (fun u => c u.2)]
        exact z3 45 j (by decide) (by decide) (by decide) (by decide) (by decide)
    · have m4 : ∀ o j, o ≠ 43 → o ≠ 45 → o ≠ 46 → M4 o j = M3 o j := fun o j n1 n2 n3 => by rw [e1 o j n1 n3, zupd_ne n2]
      have m1 : ∀ o j, o ≠ 37 → o ≠ 38 → o ≠ 39 → o ≠ 41 → o ≠ 43 → o ≠ 45 → o ≠ 46 → M4 o j = M1 o j := fun o j n1 n2 n3 n4 n5 n6 n7 => by rw [m4 o j n5 n6 n7, c1 o j n3 n4, b1 o j n1 n2]
      have m35 : ∀ j, j ≠ 1 → j ≠ 2 → j ≠ 3 → j ≠ 4 → j ≠ 6 → M4 35 j = if j = 19 then -1 else if j = 13 then -1 else if j = 12 then 1 else 0 := fun j j1 j2 j3 j4 j6 => by
        rw [m1 35 j (by decide) (by decide) (by decide) (by decide) (by decide) (by decide) (by decide), a1 35 j (by decide) (by omega), f1 j j1 j2 j3 j4, kk]
      refine ⟨hS4, ⟨m35 12 (by decide) (by decide) (by decide) (by decide) (by decide), m35 13 (by decide) (by decide) (by decide) (by decide) (by decide), m35 19 (by decide) (by decide) (by decide) (by decide) (by decide), fun j j1 j2 j3 j4 j6 j12 j13 j19 => by rw [m35 j j1 j2 j3 j4 j6, if_neg j19, if_neg j13, if_neg j12]⟩, ⟨fun x => ?_, fun x o x0 x1 o0 o1 => ?_, ⟨fun row p a b c d' => ?_, fun row p a b c d' => ?_, fun x a b => ?_⟩⟩, ⟨fun j j0 j1 => ?_, e2, e3, fun j hj => ?_⟩, fun o j ho => ?_, fun o j ho => ?_, hL2⟩
      · rw [m4 37 x (by decide) (by decide) (by decide), c1 37 x (by decide) (by decide)]; exact b2 x
      · rw [m4 38 _ (by decide) (by decide) (by decide), c1 38 _ (by decide) (by decide)]; exact b3 x o x0 x1 o0 o1
      · rw [m4 41 _ (by decide) (by decide) (by decide)]; exact c2.1 row p a b c d'
      · rw [m4 39 _ (by decide) (by decide) (by decide)]; exact c2.2.1 row p a b c d'
      · rw [m4 39 _ (by decide) (by decide) (by decide)]; exact c2.2.2 x a b
      · rw [e1 45 j (by decide) (by decide), nN0_at]
        by_cases c : j = 0
        · rw [if_pos c, c, zupd_at]
        · rw [if_neg c, zupd_no (fun u => c u.2)]
          exact z3 45 j (by decide) (by decide) (by decide) (by decide) (by decide)
      · rw [e4 j hj, zupd_ne (by decide)]
        exact z3 43 j (by decide) (by decide) (by decide) (by decide) (by decide)
      · rw [m1 o j (by omega) (by omega) (by omega) (by omega) (by omega) (by omega) (by omega)]
        exact z1 o j (by omega)
      · rw [m1 o j (by omega) (by omega) (by omega) (by omega) (by omega) (by omega) (by omega), a1 o j (by omega) (by omega), f0 o j (by omega)]
        exact kn o j ho
  have s222 : zEnds 0 179 222 [(29, 35), (0, x1), (0, x2), (0, x3), (9, 0), (9, 0), (9, 0)] [] (117, L', zupd (zupd K 35 1 d) 35 2 w) Qr Qt := by
    unfold kR at hre
    refine w_179_222 ⟨fun z => ?_, fun z => ⟨fun y => ?_, fun y => ?_⟩⟩
    · rw [if_neg (by omega)] at hre; subst hre; exact s244
    · rw [if_pos (by omega)] at hre; subst hre; exact s244
    · rw [if_neg (by omega)] at hre; subst hre; exact s244
  have s194 : zEnds 0 179 194 [(29, 35), (0, x1), (0, x2), (0, x3), (9, 0), (9, 0), (9, 0)] [] (117, L', zupd K 35 1 d) Qr Qt := by
    unfold kW at hwe
    refine w_179_194 ?_
    rw [zupd_at]
    refine ⟨fun z => ?_, fun z => ⟨fun y => ?_, fun y => ⟨fun v => ?_, fun v => ?_⟩⟩⟩
    · rw [if_neg (by omega)] at hwe; subst hwe; exact s222
    · rw [if_neg (by omega)] at hwe; subst hwe; exact s222
    · rw [if_pos (by omega)] at hwe; subst hwe; exact s222
    · rw [if_neg (by omega)] at hwe; subst hwe; exact s222
  unfold kD at hde
  refine w_179_172 ⟨fun z => ?_, fun z => ⟨fun y => ?_, fun y => ?_⟩⟩
  · rw [if_neg (by omega)] at hde; subst hde; exact s194
  · rw [if_pos (by omega)] at hde; subst hde; exact s194
  · rw [if_neg (by omega)] at hde; subst hde; exact s194
