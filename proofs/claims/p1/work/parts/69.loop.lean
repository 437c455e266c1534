/-! The law's loop, and the runs. -/
theorem z_loop {X : zHp} {N : Nat} {Ln : Int} {I : Nat → zS → Prop} (hN : Ln < 10 + 7 * N) (hN2 : N ≤ 900) (hl : 0 ≤ Ln ∧ Ln ≤ 4000) (hr : ∀ j, z32 (X (-7) j) = X (-7) j)
    (hI : ∀ n t L H, n < N → I n (t, L, H) → lR X H → 118 ≤ t → zCalls (I (n + 1)) X t L H) (hD : ∀ n S, n < N → I n S → I (n + 1) S) :
    ∀ (m n t : Nat) (L : Int → Int) (H : zHp), n + m = N → I n (t, L, H) → lR X H → 118 ≤ t → L 54 = 1 → L (-7) = Ln → zEnds 0 287 53 [(14, (-7)), (20, 0), (29, 35), (11, 54), (0, 3 + 7 * (n : Int)), (9, 0), (9, 0), (9, 0)] [] (t, L, H) (fun v S => v = 1 ∧ S.1 ≤ t + m) (fun _ _ => False) := by
  intro m
  induction m with
  | zero =>
    intro n t L H e hn0 hX ht h54 h7
    refine u_287_53 ?_
    dsimp only
    rw [h7, z32_id (x := Ln - 7) (by omega) (by omega)]
    exact ⟨fun _ => ⟨Or.inr rfl, rfl, Nat.le_refl _⟩, fun u => absurd (by omega) u⟩
  | succ m ih =>
    intro n t L H e hn0 hX ht h54 h7
    refine u_287_53 ?_
    dsimp only
    rw [h7, z32_id (x := Ln - 7) (by omega) (by omega), z32_id (x := 3 + 7 * (n : Int) + 7) (by omega) (by omega)]
    refine ⟨fun _ => ⟨Or.inr rfl, rfl, by omega⟩, fun u => ⟨⟨by omega, by omega⟩, ?_⟩⟩
    have hx : 3 ≤ 3 + 7 * (n : Int) ∧ 3 + 7 * (n : Int) + 7 ≤ L (-7) ∧ L (-7) ≤ 4000 := by omega
    have hc := hI n t L H (by omega) hn0 hX ht
    have hn : ∀ S', (S'.1 = t ∨ S'.1 = t + 1) → S'.2.1 = L → lR X S'.2.2 → I (n + 1) S' → zEnds 0 287 53 [(14, (-7)), (20, 0), (29, 35), (11, 54), (0, 3 + 7 * (n : Int) + 7), (9, 0), (9, 0), (9, 0)] [] S' (fun v S => v = 1 ∧ S.1 ≤ t + (m + 1)) (fun _ _ => False) := by
      intro S' h1 h2 h3 h4
      obtain ⟨t', L', H'⟩ := S'
      have h2 : L' = L := h2
      have h1 : t' = t ∨ t' = t + 1 := h1
      subst h2
      have q := ih (n + 1) t' L' H' (by omega) h4 h3 (by omega) h54 h7
      rw [show 3 + 7 * (((n + 1 : Nat)) : Int) = 3 + 7 * (n : Int) + 7 by omega] at q
      exact q.imp (fun v S z => ⟨z.1, by have := z.2; omega⟩) (fun _ _ z => z)
    have dflt := hn (t, L, H) (Or.inl rfl) rfl hX (hD n _ (by omega) hn0)
    exact ⟨fun _ => l_0 hx h54 hX hr hc hn, fun _ => ⟨fun _ => l_1 hx h54 hX hr hc hn, fun _ => ⟨fun _ => l_2 hx h54 hX hr hc hn, fun _ => ⟨fun _ => l_3 hx h54 hX hr hc hn, fun _ => ⟨fun _ => l_4 hx h54 hX hr hc hn, fun _ => ⟨fun _ => l_5 hx h54 hX hr hc hn, fun _ => ⟨fun _ => l_6 hx h54 hX hr hc hn, fun _ => ⟨fun _ => l_7 hx h54 hX hr hc hn, fun _ => ⟨fun _ => l_8 hx h54 hX hr hc hn, fun _ => ⟨fun _ => l_9 hx h54 hX hr hc hn, fun _ => ⟨fun _ => l_10 hx h54 hX hr hc hn, fun _ => ⟨fun _ => l_11 hx h54 hX hr hc hn, fun _ => ⟨fun _ => l_12 hx h54 hX hr hc hn, fun _ => ⟨fun _ => l_13 hx h54 hX hr hc hn, fun _ => ⟨fun _ => l_14 hx h54 hX hr hc hn, fun _ => ⟨fun _ => l_15 hx h54 hX hr hc hn, fun _ => ⟨fun _ => l_16 hx h54 hX hr hc hn, fun _ => ⟨fun _ => l_17 hx h54 hX hr hc hn, fun _ => ⟨fun _ => l_18 hx h54 hX hr hc hn, fun _ => ⟨fun _ => l_19 hx h54 hX hr hc hn, fun _ => ⟨fun _ => l_20 hx h54 hX hr hc hn, fun _ => dflt⟩⟩⟩⟩⟩⟩⟩⟩⟩⟩⟩⟩⟩⟩⟩⟩⟩⟩⟩⟩⟩
theorem z_sizes {d w r : Int} {t : Nat} {L : Int → Int} {H H' : zHp} (ht : zno t = 55) (hg : gLen d w r L) (hm : mS d w r L H) : zus (t, zlen L 54 1, H') ≤ 7000000 := by
  have hk := hm.1
  have b1 : d * (r + 1) ≤ 1040 := (gCe_rg (x := 0) (o := 0) hk ⟨by decide, by have := hk.1; omega⟩ ⟨by decide, by have := hk.2.2.2.2.2.1; omega⟩).2.2
  have b2 := gSpots hk
  have b3 := gBl_le hk
  have b4 := hk.2.1
  have key : ∀ k : Nat, k < 55 → zsz (t, zlen L 54 1, H') k ≤ 80000 := by
    intro k hk
    have c : k = 0 ∨ k = 1 ∨ k = 2 ∨ k = 3 ∨ k = 4 ∨ k = 5 ∨ k = 6 ∨ k = 7 ∨ k = 8 ∨ k = 9 ∨ k = 10 ∨ k = 11 ∨ k = 12 ∨ k = 13 ∨ k = 14 ∨ k = 15 ∨ k = 16 ∨ k = 17 ∨ k = 18 ∨ k = 19 ∨ k = 20 ∨ k = 21 ∨ k = 22 ∨ k = 23 ∨ k = 24 ∨ k = 25 ∨ k = 26 ∨ k = 27 ∨ k = 28 ∨ k = 29 ∨ k = 30 ∨ k = 31 ∨ k = 32 ∨ k = 33 ∨ k = 34 ∨ k = 35 ∨ k = 36 ∨ k = 37 ∨ k = 38 ∨ k = 39 ∨ k = 40 ∨ k = 41 ∨ k = 42 ∨ k = 43 ∨ k = 44 ∨ k = 45 ∨ k = 46 ∨ k = 47 ∨ k = 48 ∨ k = 49 ∨ k = 50 ∨ k = 51 ∨ k = 52 ∨ k = 53 ∨ k = 54 := by omega
    rcases c with rfl | rfl | rfl | rfl | rfl | rfl | rfl | rfl | rfl | rfl | rfl | rfl | rfl | rfl | rfl | rfl | rfl | rfl | rfl | rfl | rfl | rfl | rfl | rfl | rfl | rfl | rfl | rfl | rfl | rfl | rfl | rfl | rfl | rfl | rfl | rfl | rfl | rfl | rfl | rfl | rfl | rfl | rfl | rfl | rfl | rfl | rfl | rfl | rfl | rfl | rfl | rfl | rfl | rfl | rfl
    · show (zfb (zob 0 - 20)).2 ≤ 80000
      decide
    · show (zfb (zob 1 - 20)).2 ≤ 80000
      decide
    · show (zlen L 54 1 2).toNat ≤ 80000
      rw [zlen_ne (by decide), hg.1.1]
      omega
    · show (zfb (zob 3 - 20)).2 ≤ 80000
      decide
    · show (zlen L 54 1 4).toNat ≤ 80000
      rw [zlen_ne (by decide), hg.1.2.1]
      omega
    · show (zlen L 54 1 5).toNat ≤ 80000
      rw [zlen_ne (by decide), hg.1.2.2.1]
      omega
    · show (zlen L 54 1 6).toNat ≤ 80000
      rw [zlen_ne (by decide), hg.1.2.2.2.1]
      omega
    · show (zlen L 54 1 7).toNat ≤ 80000
      rw [zlen_ne (by decide), hg.1.2.2.2.2.1]
      omega
    · show (zlen L 54 1 8).toNat ≤ 80000
      rw [zlen_ne (by decide), hg.1.2.2.2.2.2.1]
      omega
    · show (zlen L 54 1 9).toNat ≤ 80000
      rw [zlen_ne (by decide), hg.1.2.2.2.2.2.2.1]
      omega
    · show (zlen L 54 1 10).toNat ≤ 80000
      rw [zlen_ne (by decide), hg.1.2.2.2.2.2.2.2.1]
      omega
    · show (zlen L 54 1 11).toNat ≤ 80000
      rw [zlen_ne (by decide), hg.1.2.2.2.2.2.2.2.2]
      omega
    · show (zfb (zob 12 - 20)).2 ≤ 80000
      decide
    · show (zlen L 54 1 13).toNat ≤ 80000
      rw [zlen_ne (by decide), hg.2.1.1]
      omega
    · show (zlen L 54 1 14).toNat ≤ 80000
      rw [zlen_ne (by decide), hg.2.1.2.1]
      omega
    · show (zlen L 54 1 15).toNat ≤ 80000
      rw [zlen_ne (by decide), hg.2.1.2.2.1]
      omega
    · show (zfb (zob 16 - 20)).2 ≤ 80000
      decide
    · show (zlen L 54 1 17).toNat ≤ 80000
      rw [zlen_ne (by decide), hg.2.1.2.2.2]
      omega
    · show (zfb (zob 18 - 20)).2 ≤ 80000
      decide
    · show (zlen L 54 1 19).toNat ≤ 80000
      rw [zlen_ne (by decide), hg.2.2.1]
      omega
    · show (zlen L 54 1 20).toNat ≤ 80000
      rw [zlen_ne (by decide), hg.2.2.2.1]
      omega
    · show (zlen L 54 1 21).toNat ≤ 80000
      rw [zlen_ne (by decide), hg.2.2.2.2.1]
      omega
    · show (zlen L 54 1 22).toNat ≤ 80000
      rw [zlen_ne (by decide), hg.2.2.2.2.2.1]
      omega
    · show (zlen L 54 1 23).toNat ≤ 80000
      rw [zlen_ne (by decide), hg.2.2.2.2.2.2.1]
      omega
    · show (zlen L 54 1 24).toNat ≤ 80000
      rw [zlen_ne (by decide), hg.2.2.2.2.2.2.2.1]
      omega
    · show (zlen L 54 1 25).toNat ≤ 80000
      rw [zlen_ne (by decide), hg.2.2.2.2.2.2.2.2.1]
      omega
    · show (zfb (zob 26 - 20)).2 ≤ 80000
      decide
    · show (zfb (zob 27 - 20)).2 ≤ 80000
      decide
    · show (zlen L 54 1 28).toNat ≤ 80000
      rw [zlen_ne (by decide), hg.2.2.2.2.2.2.2.2.2.1]
      omega
    · show (zfb (zob 29 - 20)).2 ≤ 80000
      decide
    · show (zlen L 54 1 30).toNat ≤ 80000
      rw [zlen_ne (by decide), hg.2.2.2.2.2.2.2.2.2.2.1]
      omega
    · show (zlen L 54 1 31).toNat ≤ 80000
      rw [zlen_ne (by decide), hg.2.2.2.2.2.2.2.2.2.2.2.1]
      omega
    · show (zlen L 54 1 32).toNat ≤ 80000
      rw [zlen_ne (by decide), hg.2.2.2.2.2.2.2.2.2.2.2.2.1]
      omega
    · show (zlen L 54 1 33).toNat ≤ 80000
      rw [zlen_ne (by decide), hg.2.2.2.2.2.2.2.2.2.2.2.2.2.1]
      omega
    · show (zlen L 54 1 34).toNat ≤ 80000
      rw [zlen_ne (by decide), hg.2.2.2.2.2.2.2.2.2.2.2.2.2.2]
      omega
    · show (zfb (zob 35 - 20)).2 ≤ 80000
      decide
    · show (zlen L 54 1 36).toNat ≤ 80000
      rw [zlen_ne (by decide), hm.2.1.1]
      omega
    · show (zlen L 54 1 37).toNat ≤ 80000
      rw [zlen_ne (by decide), hm.2.1.2.1]
      omega
    · show (zlen L 54 1 38).toNat ≤ 80000
      rw [zlen_ne (by decide), hm.2.1.2.2.1]
      omega
    · show (zlen L 54 1 39).toNat ≤ 80000
      rw [zlen_ne (by decide), hm.2.1.2.2.2.1]
      omega
    · show (zlen L 54 1 40).toNat ≤ 80000
      rw [zlen_ne (by decide), hm.2.1.2.2.2.2.1]
      omega
    · show (zlen L 54 1 41).toNat ≤ 80000
      rw [zlen_ne (by decide), hm.2.1.2.2.2.2.2.1]
      omega
    · show (zlen L 54 1 42).toNat ≤ 80000
      rw [zlen_ne (by decide), hm.2.1.2.2.2.2.2.2.1]
      omega
    · show (zlen L 54 1 43).toNat ≤ 80000
      rw [zlen_ne (by decide), hm.2.1.2.2.2.2.2.2.2.1]
      omega
    · show (zlen L 54 1 44).toNat ≤ 80000
      rw [zlen_ne (by decide), hm.2.1.2.2.2.2.2.2.2.2]
      omega
    · show (zlen L 54 1 45).toNat ≤ 80000
      rw [zlen_ne (by decide), hm.2.2.1.1]
      omega
    · show (zlen L 54 1 46).toNat ≤ 80000
      rw [zlen_ne (by decide), hm.2.2.1.2.1]
      omega
    · show (zlen L 54 1 47).toNat ≤ 80000
      rw [zlen_ne (by decide), hm.2.2.1.2.2.1]
      omega
    · show (zlen L 54 1 48).toNat ≤ 80000
      rw [zlen_ne (by decide), hm.2.2.1.2.2.2.1]
      omega
    · show (zlen L 54 1 49).toNat ≤ 80000
      rw [zlen_ne (by decide), hm.2.2.1.2.2.2.2.1]
      omega
    · show (zlen L 54 1 50).toNat ≤ 80000
      rw [zlen_ne (by decide), hm.2.2.1.2.2.2.2.2.1]
      omega
    · show (zlen L 54 1 51).toNat ≤ 80000
      rw [zlen_ne (by decide), hm.2.2.1.2.2.2.2.2.2.1]
      omega
    · show (zlen L 54 1 52).toNat ≤ 80000
      rw [zlen_ne (by decide), hm.2.2.1.2.2.2.2.2.2.2.1]
      omega
    · show (zlen L 54 1 53).toNat ≤ 80000
      rw [zlen_ne (by decide), hm.2.2.1.2.2.2.2.2.2.2.2]
      omega
    · show (zlen L 54 1 54).toNat ≤ 80000
      rw [zlen_at]
      decide
  have sum : ∀ n : Nat, n ≤ 55 → ((List.range n).map (zsz (t, zlen L 54 1, H'))).sum ≤ n * 80000 := by
    intro n
    induction n with
    | zero => intro _; exact Nat.le_refl 0
    | succ n ih =>
      intro hn
      rw [List.range_succ, List.map_append, List.sum_append]
      have h1 := ih (by omega)
      have h2 := key n (by omega)
      show _ + (zsz (t, zlen L 54 1, H') n + 0) ≤ _
      omega
  have h := sum 55 (Nat.le_refl _)
  unfold zus
  rw [show zno ((t, zlen L 54 1, H') : zS).1 = 55 from ht]
  omega
theorem zno_118 : zno 118 = 55 := by decide +kernel
/-- the runs of a script, out of what all calls show -/
theorem z_runs {L : Nat} {xs : Nat → Int32} {N : Nat} {I : Nat → zS → Prop} (hL : L ≤ 3587) (hN : (L : Int) < 10 + 7 * N) (hN2 : N ≤ 900)
    (h0 : ∀ d w r L1 L2 H1 H2, kNew d w r (zA0 L) L1 (zH0 L xs) H1 → mNew d w r L1 L2 H1 H2 → I 0 (118, zlen L2 54 1, H2))
    (hI : ∀ n t L' H, n < N → I n (t, L', H) → lR (zH0 L xs) H → 118 ≤ t → zCalls (I (n + 1)) (zH0 L xs) t L' H) (hD : ∀ n S, n < N → I n S → I (n + 1) S) : zRuns L xs := by
  have z0 : ∀ o j, 0 ≤ o → zH0 L xs o j = 0 := fun o j ho => by
    unfold zH0
    rw [if_neg (by omega), if_neg (by omega)]
  have e1 := k_new (x1 := zca L xs 0) (x2 := zca L xs 1) (x3 := zca L xs 2) (L := zA0 L) (H := zH0 L xs) (Qr := fun v S => v = 0 ∧ ∃ L' H', S = (80, L', H') ∧ kNew (kD (zca L xs 0)) (kW (kD (zca L xs 0)) (zca L xs 1)) (kR (zca L xs 2)) (zA0 L) L' (zH0 L xs) H') (Qt := fun _ _ => False) z0 (fun L' H' h => ⟨rfl, L', H', rfl, h⟩)
  obtain ⟨n1, c1, v1, S1, x1, h1⟩ := e1
  rcases h1 with ⟨c1z, v1z, L1, H1, s1, k1⟩ | ⟨-, f⟩
  · subst c1z v1z s1
    have e2 := m_new (x1 := zca L xs 0) (x2 := zca L xs 1) (x3 := zca L xs 2) (L := L1) (H := H1) (Qr := fun v S => v = 0 ∧ ∃ L' H', S = (117, L', H') ∧ mNew (kD (zca L xs 0)) (kW (kD (zca L xs 0)) (zca L xs 1)) (kR (zca L xs 2)) L1 L' H1 H') (Qt := fun _ _ => False) k1.2.2.2.1 (fun L' H' h => ⟨rfl, L', H', rfl, h⟩)
    obtain ⟨n2, c2, v2, S2, x2, h2⟩ := e2
    rcases h2 with ⟨c2z, v2z, L2, H2, s2, k2⟩ | ⟨-, f⟩
    · subst c2z v2z s2
      have l7 : L1 (-7) = L := by rw [k1.2.2.2.2.2 (-7) (Or.inl (by decide))]; rfl
      have l72 : zlen L2 54 1 (-7) = L := by rw [zlen_ne (by decide), k2.2.2.2.2.2.2 (-7) (Or.inl (by decide))]; exact l7
      have hX : lR (zH0 L xs) H2 := fun j => by rw [k2.2.2.2.2.2.1 (-7) j (by decide)]; exact k1.2.2.2.2.1 (-7) j (by decide)
      have hr : ∀ j, z32 (zH0 L xs (-7) j) = zH0 L xs (-7) j := fun j => by
        unfold zH0
        rw [if_neg (by omega)]
        by_cases c : (-7 : Int) = -7 ∧ 0 ≤ j ∧ j < L
        · rw [if_pos c]; exact z32_toInt _
        · rw [if_neg c]; rfl
      have e3 := z_loop (X := zH0 L xs) (N := N) (Ln := L) (I := I) hN hN2 (by omega) hr hI hD N 0 118 (zlen L2 54 1) H2 (by omega) (h0 _ _ _ _ _ _ _ k1 k2) hX (Nat.le_refl _) zlen_at l72
      obtain ⟨n3, c3, v3, S3, x3, h3⟩ := e3
      rcases h3 with ⟨c3z, v3z, t3⟩ | ⟨-, f⟩
      · subst c3z v3z
        have hg : gLen (kD (zca L xs 0)) (kW (kD (zca L xs 0)) (zca L xs 1)) (kR (zca L xs 2)) L2 := by
          have g := k1.1.1.1.2.1
          have e : ∀ o : Int, o < 35 → L2 o = L1 o := fun o ho => k2.2.2.2.2.2.2 o (Or.inl ho)
          unfold gLen at g ⊢
          rw [e 2 (by decide), e 4 (by decide), e 5 (by decide), e 6 (by decide), e 7 (by decide), e 8 (by decide), e 9 (by decide), e 10 (by decide), e 11 (by decide), e 13 (by decide), e 14 (by decide), e 15 (by decide), e 17 (by decide), e 19 (by decide), e 20 (by decide), e 21 (by decide), e 22 (by decide), e 23 (by decide), e 24 (by decide), e 25 (by decide), e 28 (by decide), e 30 (by decide), e 31 (by decide), e 32 (by decide), e 33 (by decide), e 34 (by decide)]
          exact g
        exact ⟨n1, n2, n3, (80, L1, H1), (117, L2, H2), S3, ⟨x1, rfl, fun j => k1.2.2.2.1 35 j (by decide), fun j => k1.2.2.2.2.1 (-7) j (by decide), l7⟩, ⟨x2, rfl, fun j => k2.2.2.2.2.1 54 j (Or.inr (Or.inr (Or.inr (by decide))))⟩, x3, by omega, z_sizes zno_118 hg k2.1⟩
      · exact f.elim
    · exact f.elim
  · exact f.elim
