/-! The loop, with ranges and the parity at its start. -/
theorem zca_z {L : Nat} {xs : Nat → Int32} {i : Nat} : z32 (zca L xs i) = zca L xs i := by
  unfold zca
  by_cases c : i < L
  · rw [if_pos c]; exact z32_toInt _
  · rw [if_neg c]; rfl
theorem zfa_z : ∀ n : Nat, n < 16 → z32 (zfa n) = zfa n := by decide
theorem zh_start {L : Nat} {xs : Nat → Int32} (hL : L ≤ 3587) : zhR (1, zA0 L, zH0 L xs) := by
  refine ⟨fun o => ?_, fun o i => ⟨fun h => ?_, fun _ => ?_⟩⟩
  · show z32 (zA0 L o) = zA0 L o
    unfold zA0
    by_cases c : o = -8
    · rw [if_pos c]; rfl
    · rw [if_neg c]
      by_cases c2 : o = -7
      · rw [if_pos c2]; exact z32_id (by omega) (by omega)
      · rw [if_neg c2]; rfl
  · show z64 (zH0 L xs o i) = zH0 L xs o i
    have no : 0 ≤ o := by
      simp [lg] at h
      omega
    unfold zH0
    rw [if_neg (by omega), if_neg (by omega)]
    rfl
  · show z32 (zH0 L xs o i) = zH0 L xs o i
    unfold zH0
    by_cases c : o = -8 ∧ 0 ≤ i ∧ i < 16
    · rw [if_pos c]; exact zfa_z _ (by omega)
    · rw [if_neg c]
      by_cases c2 : o = -7 ∧ 0 ≤ i ∧ i < L
      · rw [if_pos c2]; exact z32_toInt _
      · rw [if_neg c2]; rfl
theorem zh_len {t t' : Nat} {L : Int → Int} {H : zHp} (h : zhR (t, L, H)) : zhR (t', zlen L 54 1, H) := by
  refine ⟨fun o => ?_, h.2⟩
  show z32 (zlen L 54 1 o) = zlen L 54 1 o
  unfold zlen
  by_cases c : o = 54
  · rw [if_pos c]; rfl
  · rw [if_neg c]; exact h.1 o
theorem z_runs2 {L : Nat} {xs : Nat → Int32} {N : Nat} {I : Nat → zS → Prop} (hL : L ≤ 3587) (hN : (L : Int) < 10 + 7 * N) (hN2 : N ≤ 900)
    (h0 : ∀ d w r L1 L2 H1 H2, kNew d w r (zA0 L) L1 (zH0 L xs) H1 → mNew d w r L1 L2 H1 H2 → (∃ C, kPar d w r C H1) → zhR (118, zlen L2 54 1, H2) → I 0 (118, zlen L2 54 1, H2))
    (hI : ∀ n t L' H, n < N → I n (t, L', H) → lR (zH0 L xs) H → 118 ≤ t → zCalls (I (n + 1)) (zH0 L xs) t L' H) (hD : ∀ n S, n < N → I n S → I (n + 1) S) : zRuns L xs := by
  have z0 : ∀ o j, 0 ≤ o → zH0 L xs o j = 0 := fun o j ho => by
    unfold zH0
    rw [if_neg (by omega), if_neg (by omega)]
  have e1 := k_new (x1 := zca L xs 0) (x2 := zca L xs 1) (x3 := zca L xs 2) (L := zA0 L) (H := zH0 L xs) (Qr := fun v S => v = 0 ∧ ∃ L' H', S = (80, L', H') ∧ kNew (kD (zca L xs 0)) (kW (kD (zca L xs 0)) (zca L xs 1)) (kR (zca L xs 2)) (zA0 L) L' (zH0 L xs) H') (Qt := fun _ _ => False) z0 (fun L' H' h => ⟨rfl, L', H', rfl, h⟩)
  have zr0 : zhR (1, zA0 L, zH0 L xs) := zh_start (by omega)
  have e1 := zEnds_rg (za_c (za_i zca_z (za_i zca_z (za_i zca_z (za_9 (za_9 (za_9 za_0))))))) za_0 zr0 (zEnds_and e1 (k_par (x1 := zca L xs 0) (x2 := zca L xs 1) (x3 := zca L xs 2) (L := zA0 L) z0))
  obtain ⟨n1, c1, v1, S1, x1, h1⟩ := e1
  rcases h1 with ⟨c1z, ⟨⟨v1z, L1, H1, s1, k1⟩, kp1⟩, zr1⟩ | ⟨-, ⟨f, -⟩, -⟩
  · subst c1z v1z s1
    have e2 := m_new (x1 := zca L xs 0) (x2 := zca L xs 1) (x3 := zca L xs 2) (L := L1) (H := H1) (Qr := fun v S => v = 0 ∧ ∃ L' H', S = (117, L', H') ∧ mNew (kD (zca L xs 0)) (kW (kD (zca L xs 0)) (zca L xs 1)) (kR (zca L xs 2)) L1 L' H1 H') (Qt := fun _ _ => False) k1.2.2.2.1 (fun L' H' h => ⟨rfl, L', H', rfl, h⟩)
    have e2 := zEnds_rg (za_m (za_i zca_z (za_i zca_z (za_i zca_z (za_9 (za_9 (za_9 za_0))))))) za_0 (zhR.t zr1) e2
    have kp := kp1 (fun j => zhR.word zr1 rfl)
    obtain ⟨n2, c2, v2, S2, x2, h2⟩ := e2
    rcases h2 with ⟨c2z, ⟨v2z, L2, H2, s2, k2⟩, zr2⟩ | ⟨-, f, -⟩
    · subst c2z v2z s2
      have l7 : L1 (-7) = L := by rw [k1.2.2.2.2.2 (-7) (Or.inl (by decide))]; rfl
      have l72 : zlen L2 54 1 (-7) = L := by rw [zlen_ne (by decide), k2.2.2.2.2.2.2 (-7) (Or.inl (by decide))]; exact l7
      have hX : lR (zH0 L xs) H2 := fun j => by rw [k2.2.2.2.2.2.1 (-7) j (by decide)]; exact k1.2.2.2.2.1 (-7) j (by decide)
      have hr : ∀ j, z32 (zH0 L xs (-7) j) = zH0 L xs (-7) j := fun j => by
        unfold zH0
        rw [if_neg (by omega)]
        by_cases c : (-7 : Int) = -7 ∧ 0 ≤ j ∧ j < L
        · rw [if_pos c]; exact z32_toInt _
        · rw [if_neg c]; rfl
      have e3 := z_loop (X := zH0 L xs) (N := N) (Ln := L) (I := I) hN hN2 (by omega) hr hI hD N 0 118 (zlen L2 54 1) H2 (by omega) (h0 _ _ _ _ _ _ _ k1 k2 kp (zh_len zr2)) hX (Nat.le_refl _) zlen_at l72
      obtain ⟨n3, c3, v3, S3, x3, h3⟩ := e3
      rcases h3 with ⟨c3z, v3z, t3⟩ | ⟨-, f⟩
      · subst c3z v3z
        have hg : gLen (kD (zca L xs 0)) (kW (kD (zca L xs 0)) (zca L xs 1)) (kR (zca L xs 2)) L2 := by
          have g := k1.1.1.1.2.1
          have e : ∀ o : Int, o < 35 → L2 o = L1 o := fun o ho => k2.2.2.2.2.2.2 o (Or.inl ho)
          unfold gLen at g ⊢
          rw [e 2 (by decide), e 4 (by decide), e 5 (by decide), e 6 (by decide), e 7 (by decide), e 8 (by decide), e 9 (by decide), e 10 (by decide), e 11 (by decide), e 13 (by decide), e 14 (by decide), e 15 (by decide), e 17 (by decide), e 19 (by decide), e 20 (by decide), e 21 (by decide), e 22 (by decide), e 23 (by decide), e 24 (by decide), e 25 (by decide), e 28 (by decide), e 30 (by decide), e 31 (by decide), e 32 (by decide), e 33 (by decide), e 34 (by decide)]
          exact g
        exact ⟨n1, n2, n3, (80, L1, H1), (117, L2, H2), S3, ⟨x1, rfl, fun j => k1.2.2.2.1 35 j (by decide), fun j => k1.2.2.2.2.1 (-7) j (by decide), l7⟩, ⟨x2, rfl, fun j => k2.2.2.2.2.1 54 j (Or.inr (Or.inr (Or.inr (by decide))))⟩, x3, by omega, z_sizes zno_118 hg k2.1⟩
      · exact f.elim
    · exact f.elim
  · exact f.elim
