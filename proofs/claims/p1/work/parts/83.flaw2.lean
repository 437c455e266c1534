/-! Flaws: the methods. -/
section FLAW
variable {d w r : Int} {t : Nat} {L : Int → Int} {H : zHp} {Qr Qt : Int → zS → Prop}
/-- what a draft's byte k becomes -/
def dB (a n m : Int) (D : Int → Int) (k : Int) : Int := if a ≤ k ∧ k < a + n then X8 (D k) (by8 m (k - a)) else D k
/-- Rack.draftFlaw -/
theorem g_draft {x o a n m : Int} (h : gS d w r (t, L, H)) (hx : 0 ≤ x ∧ x < d) (ho : 0 ≤ o ∧ o ≤ r) (ha : 0 ≤ a ∧ a + n ≤ 72) (hn : 0 ≤ n ∧ n ≤ 8)
    (hQ : ∀ H', gS d w r (t, L, H') → (∀ q i, q ≠ 10 → H' q i = H q i) → (∀ k, 0 ≤ k → k < 72 → zB8 H' 10 k = dB a n m (fun k => zB8 H 9 (72 * gCe r x o + k)) k) → Qr 0 (t, L, H')) : zEnds 80 33 0 [(22, 3), (0, x), (0, o), (0, a), (0, n), (1, m), (9, 0), (9, 0), (9, 0)] [] (t, L, H) Qr Qt := by
  have hk := h.1
  have hc := gCe_rg hk hx ho
  have n31 : H 3 1 = r + 1 := h.2.2.1.2.2.2.1
  have l9 : L 9 = 9 * (d * (r + 1)) := h.2.1.1.2.2.2.2.2.2.1
  have l10 : L 10 = 9 := h.2.1.1.2.2.2.2.2.2.2.1
  have ec : z32 (9 * z32 (z32 (x * H 3 1) + o)) = 9 * gCe r x o := by
    have nn : 0 ≤ x * (r + 1) := Int.mul_nonneg hx.1 (by omega)
    unfold gCe at hc ⊢
    rw [n31, z32_id (x := x * (r + 1)) (by omega) (by omega), z32_id (x := x * (r + 1) + o) (by omega) (by omega), z32_id (by omega) (by omega)]
  have key : ∀ (j : Nat) (i : Int) (G : zHp), 0 ≤ i → i + j = n → gS d w r (t, L, G) → (∀ q i, q ≠ 10 → G q i = H q i) → (∀ k, 0 ≤ k → k < 72 → zB8 G 10 k = dB a i m (fun k => zB8 H 9 (72 * gCe r x o + k)) k) → zEnds 80 33 28 [(22, 3), (9, 0), (9, 0), (0, a), (0, n), (1, m), (9, 0), (0, i), (9, 0)] [] (t, L, G) Qr Qt := by
    intro j
    induction j with
    | zero =>
      intro i G i0 i1 g0 g1 g2
      have ei : i = n := by omega
      rw [ei] at g2
      exact v_33_28 ⟨fun _ => hQ G g0 g1 g2, fun u => absurd (by omega) u⟩
    | succ j ih =>
      intro i G i0 i1 g0 g1 g2
      refine v_33_28 ⟨fun u => by omega, fun _ => ?_⟩
      rw [z32_id (x := a + i) (by omega) (by omega), z32_id (x := i + 1) (by omega) (by omega)]
      refine s_one (by decide) (by omega) (by show 8 * 0 + (a + i) < 8 * L 10; omega) (by show L 10 ≤ 1000000; omega) (s_setOne (by decide) (by omega) (by show 8 * 0 + (a + i) < 8 * L 10; omega) (by show L 10 ≤ 1000000; omega) ?_)
      rw [show 8 * 0 + (a + i) = a + i by omega]
      refine ih (i + 1) _ (by omega) (by omega) (g0.upd (by omega) (by omega)) (fun q i hq => by rw [zupB_ne hq]; exact g1 q i hq) (fun k k0 k1 => ?_)
      rw [zB8_set (by omega) k0]
      show (if (10 : Int) = 10 ∧ k = a + i then zxor (zB8 G 10 (a + i)) (z32 (zlushr m (z32 (8 * i)))) % 256 else zB8 G 10 k) = _
      by_cases c : k = a + i
      · rw [if_pos ⟨rfl, c⟩, zxor_mod, g2 (a + i) (by omega) (by omega)]
        unfold dB
        rw [if_neg (by omega), if_pos (by omega), c, show a + i - a = i by omega]
        exact X8_r (by rw [by8_u (m := m) (k := i) (by omega)]; exact (Int.emod_eq_of_lt (by8_rg m i).1 (by8_rg m i).2).symm)
      · rw [if_neg (fun u => c u.2), g2 k k0 k1]
        unfold dB
        by_cases e : a ≤ k ∧ k < a + i
        · rw [if_pos e, if_pos (by omega)]
        · rw [if_neg e, if_neg (by omega)]
  refine v_33 ?_
  show (0 ≤ (9 : Int) ∧ 0 ≤ z32 (9 * (z32 (z32 (x * (H 3 1)) + o))) ∧ 0 ≤ (0 : Int) ∧ z32 (9 * (z32 (z32 (x * (H 3 1)) + o))) + 9 ≤ L 9 ∧ 0 + 9 ≤ L 10 ∧ (9 : Int) ≠ 10) ∧ zEnds 80 33 28 [(22, 3), (9, 0), (9, 0), (0, a), (0, n), (1, m), (9, 0), (0, 0), (9, 0)] [] (t, L, zcpy H 9 (z32 (9 * (z32 (z32 (x * (H 3 1)) + o)))) 10 0 9) Qr Qt
  rw [ec]
  refine ⟨⟨by decide, by omega, by decide, by omega, by omega, by decide⟩, key n.toNat 0 _ (by omega) (by omega) (h.cpy (by omega)) (fun q i hq => zcpy_ne hq) (fun k k0 k1 => ?_)⟩
  unfold dB
  rw [if_neg (by omega)]
  show zB8 (zcpy H 9 (9 * gCe r x o) 10 0 9) 10 k = zB8 H 9 (72 * gCe r x o + k)
  unfold zB8 zcpy
  rw [if_pos ⟨rfl, by omega, by omega⟩, show 9 * gCe r x o + (k / 8 - 0) = (72 * gCe r x o + k) / 8 by omega, show (72 * gCe r x o + k) % 8 = k % 8 by omega]
/-- Rack.draftIsFlaw -/
theorem g_isFlaw (h10 : L 10 = 9) (h1 : (∃ j, 0 ≤ j ∧ j < 9 ∧ H 10 j ≠ 0) → Qr 1 (t, L, H)) (h0 : (∀ j, 0 ≤ j → j < 9 → H 10 j = 0) → Qr 0 (t, L, H)) : zEnds 80 34 0 [(22, 3), (9, 0)] [] (t, L, H) Qr Qt := by
  have key : ∀ (n : Nat) (j : Int), 0 ≤ j → j + n = 9 → (∀ i, 0 ≤ i → i < j → H 10 i = 0) → zEnds 80 34 2 [(22, 3), (0, j)] [] (t, L, H) Qr Qt := by
    intro n
    induction n with
    | zero =>
      intro j j0 j1 z
      exact v_34_2 ⟨fun _ => ⟨Or.inl rfl, h0 (fun i i0 i1 => z i i0 (by omega))⟩, fun u => absurd (by omega) u⟩
    | succ n ih =>
      intro j j0 j1 z
      refine v_34_2 ⟨fun u => by omega, fun _ => ⟨by show 0 ≤ j ∧ j < L 10; omega, fun u => ?_, fun u => ⟨Or.inr rfl, h1 ⟨j, j0, by omega, fun v => u (zcmp_0.mpr v)⟩⟩⟩⟩
      rw [z32_id (x := j + 1) (by omega) (by omega)]
      refine ih (j + 1) (by omega) (by omega) (fun i i0 i1 => ?_)
      by_cases c : i = j
      · rw [c]; exact zcmp_0.mp u
      · exact z i i0 (by omega)
  exact v_34 (key 9 0 (by decide) (by decide) (fun i i0 i1 => by omega))
/-- Rack.draftIsForged, of a flaw -/
theorem g_forged (h8 : cT8 L H) (h10 : L 10 = 9) (hf : ∃ j, 0 ≤ j ∧ j < 9 ∧ H 10 j ≠ 0) (h1 : cRc (zB8 H 10) 0 66 0 = cW (zB8 H 10) → Qr 1 (t, L, H)) (h0 : cRc (zB8 H 10) 0 66 0 ≠ cW (zB8 H 10) → Qr 0 (t, L, H)) : zEnds 80 35 0 [(22, 3), (9, 0)] [] (t, L, H) Qr Qt := by
  have e : z32 (zlushr (H 10 8) 16) = cW (zB8 H 10) := cW_eq rfl rfl rfl rfl
  refine v_35 ⟨by show 0 ≤ (8 : Int) ∧ 8 < L 10; omega, g_isFlaw h10 (fun _ => ⟨fun u => absurd u (by decide), fun _ => s_shifted (n := 66) h8 (by omega) (by omega) ?_⟩) (fun z => ?_)⟩
  · show (cRc (zB8 H 10) 0 66 0 ≠ z32 (zlushr (H 10 8) 16) → ((0 : Int) = 0 ∨ (0 : Int) = 1) ∧ Qr 0 (t, L, H)) ∧ (¬ (cRc (zB8 H 10) 0 66 0 ≠ z32 (zlushr (H 10 8) 16)) → ((1 : Int) = 0 ∨ (1 : Int) = 1) ∧ Qr 1 (t, L, H))
    rw [e]
    refine ⟨fun u => ⟨Or.inl rfl, h0 u⟩, fun u => ⟨Or.inr rfl, h1 ?_⟩⟩
    by_cases c : cRc (zB8 H 10) 0 66 0 = cW (zB8 H 10)
    · exact c
    · exact absurd c u
  · obtain ⟨j, j0, j1, j2⟩ := hf
    exact absurd (z j j0 j1) j2
/-- Rack.keepFlaw -/
theorem g_keepFlaw {x o : Int} (h : gS d w r (t, L, H)) (hx : 0 ≤ x ∧ x < d) (ho : 0 ≤ o ∧ o ≤ r)
    (hQ : ∀ v, (v = 0 ∨ v = 1) → (v = 1 ↔ ∃ j, 0 ≤ j ∧ j < 9 ∧ H 10 j ≠ 0) → Qr 0 (t, L, zupd (zcpy H 10 0 9 (9 * gCe r x o) 9) 6 (gCe r x o) v)) : zEnds 80 36 0 [(22, 3), (0, x), (0, o), (9, 0)] [] (t, L, H) Qr Qt := by
  have hk := h.1
  have hc := gCe_rg hk hx ho
  have n31 : H 3 1 = r + 1 := h.2.2.1.2.2.2.1
  have l6 : L 6 = d * (r + 1) := h.2.1.1.2.2.2.1
  have l9 : L 9 = 9 * (d * (r + 1)) := h.2.1.1.2.2.2.2.2.2.1
  have l10 : L 10 = 9 := h.2.1.1.2.2.2.2.2.2.2.1
  have ec1 : z32 (z32 (x * H 3 1) + o) = gCe r x o := by
    have nn : 0 ≤ x * (r + 1) := Int.mul_nonneg hx.1 (by omega)
    unfold gCe at hc ⊢
    rw [n31, z32_id (x := x * (r + 1)) (by omega) (by omega), z32_id (x := x * (r + 1) + o) (by omega) (by omega)]
  refine v_36 ?_
  dsimp only
  rw [ec1, z32_id (x := 9 * gCe r x o) (by omega) (by omega)]
  refine ⟨⟨by decide, by decide, by omega, by omega, by omega, by decide⟩, ?_⟩
  have e10 : ∀ j, zcpy H 10 0 9 (9 * gCe r x o) 9 10 j = H 10 j := fun j => zcpy_ne (by decide)
  refine g_isFlaw l10 (fun u => ⟨⟨by show 0 ≤ gCe r x o ∧ gCe r x o < L 6; omega, Or.inr rfl⟩, hQ 1 (Or.inr rfl) ⟨fun _ => ?_, fun _ => rfl⟩⟩) (fun u => ⟨⟨by show 0 ≤ gCe r x o ∧ gCe r x o < L 6; omega, Or.inl rfl⟩, hQ 0 (Or.inl rfl) ⟨fun v => absurd v (by decide), fun v => ?_⟩⟩)
  · obtain ⟨j, j0, j1, j2⟩ := u
    exact ⟨j, j0, j1, by rw [e10] at j2; exact j2⟩
  · obtain ⟨j, j0, j1, j2⟩ := v
    exact absurd (by rw [← e10]; exact u j j0 j1) j2
/-- DiskPoolModel.turn -/
theorem m_turn {a n m : Int} (l40 : L 40 = 72800) (ha : 0 ≤ a ∧ a + n ≤ 72800) (hn : 0 ≤ n ∧ n ≤ 8)
    (hQ : ∀ H', (∀ q i, q ≠ 40 → H' q i = H q i) → (∀ i, ¬ (a ≤ i ∧ i < a + n) → H' 40 i = H 40 i) → (∀ i, a ≤ i → i < a + n → H' 40 i % 256 = X8 (H 40 i) (by8 m (i - a)) ∧ -128 ≤ H' 40 i ∧ H' 40 i ≤ 127) → Qr 0 (t, L, H')) : zEnds 118 210 0 [(29, 35), (0, a), (0, n), (1, m), (9, 0), (9, 0)] [] (t, L, H) Qr Qt := by
  have key : ∀ (j : Nat) (k : Int) (G : zHp), 0 ≤ k → k + j = n → (∀ q i, q ≠ 40 → G q i = H q i) → (∀ i, ¬ (a ≤ i ∧ i < a + k) → G 40 i = H 40 i) → (∀ i, a ≤ i → i < a + k → G 40 i % 256 = X8 (H 40 i) (by8 m (i - a)) ∧ -128 ≤ G 40 i ∧ G 40 i ≤ 127) → zEnds 118 210 3 [(29, 35), (0, a), (0, n), (1, m), (9, 0), (0, k)] [] (t, L, G) Qr Qt := by
    intro j
    induction j with
    | zero =>
      intro k G k0 k1 g1 g2 g3
      have ek : k = n := by omega
      rw [ek] at g2 g3
      exact v_210_3 ⟨fun _ => hQ G g1 g2 g3, fun u => absurd (by omega) u⟩
    | succ j ih =>
      intro k G k0 k1 g1 g2 g3
      refine v_210_3 ⟨fun u => by omega, fun _ => ?_⟩
      rw [z32_id (x := a + k) (by omega) (by omega), z32_id (x := k + 1) (by omega) (by omega), by8_s (m := m) (k := k) (by omega)]
      refine ⟨by show 0 ≤ a + k ∧ a + k < L 40; omega, by show 0 ≤ a + k ∧ a + k < L 40; omega, ih (k + 1) _ (by omega) (by omega) (fun q i hq => by rw [zupd_ne hq]; exact g1 q i hq) (fun i hi => by rw [zupd_no (by omega)]; exact g2 i (by omega)) (fun i i0 i1 => ?_)⟩
      by_cases c : i = a + k
      · rw [c, zupd_at, zi2b_mod, zi2b_mod, zxor_mod, show a + k - a = k by omega]
        refine ⟨?_, by unfold zi2b; omega, by unfold zi2b; omega⟩
        show X8 (G 40 (a + k)) (by8 m k) = _
        rw [g2 (a + k) (by omega)]
      · rw [zupd_no (by omega)]
        exact g3 i i0 (by omega)
  exact v_210 (key n.toNat 0 H (by omega) (by omega) (fun _ _ _ => rfl) (fun _ _ => rfl) (fun i i0 i1 => by omega))
theorem cRc_snoc {D : Int → Int} : ∀ (n : Nat) (i v : Int), cRc D i (n + 1) v = cB (cRc D i n v) (D (i + n)) := by
  intro n
  induction n with
  | zero =>
    intro i v
    show cB v (D i) = cB v (D (i + ((0 : Nat) : Int)))
    rw [show i + ((0 : Nat) : Int) = i by omega]
  | succ n ih =>
    intro i v
    show cRc D (i + 1) (n + 1) (cB v (D i)) = cB (cRc D (i + 1) n (cB v (D i))) (D (i + ((n + 1 : Nat) : Int)))
    rw [ih, show i + 1 + (n : Int) = i + ((n + 1 : Nat) : Int) by omega]
theorem cRc_32 {D : Int → Int} : ∀ (n : Nat) (i v : Int), z32 v = v → z32 (cRc D i n v) = cRc D i n v := by
  intro n
  induction n with
  | zero => intro i v h; exact h
  | succ n ih => intro i v _; exact ih _ _ (zs1_32 _)
/-- DiskPoolModel.isUnseen -/
theorem m_unseen {c : Int} (l40 : L 40 = 72800) (hc : 0 ≤ c ∧ c < 1040) (h1 : ((∃ k, 0 ≤ k ∧ k < 70 ∧ H 40 (70 * c + k) ≠ 0) ∧ cRc (fun k => H 40 (70 * c + k) % 256) 0 66 0 = cW (fun k => H 40 (70 * c + k) % 256)) → Qr 1 (t, L, H)) (h0 : ¬ ((∃ k, 0 ≤ k ∧ k < 70 ∧ H 40 (70 * c + k) ≠ 0) ∧ cRc (fun k => H 40 (70 * c + k) % 256) 0 66 0 = cW (fun k => H 40 (70 * c + k) % 256)) → Qr 0 (t, L, H)) : zEnds 118 211 0 [(29, 35), (0, c), (9, 0), (9, 0), (9, 0), (9, 0)] [] (t, L, H) Qr Qt := by
  have e70 : z32 (70 * c) = 70 * c := z32_id (by omega) (by omega)
  have e1 : z32 (z32 (70 * c) + 70) = 70 * c + 70 := by rw [e70]; exact z32_id (by omega) (by omega)
  have e2 : z32 (z32 (z32 (70 * c) + 70) - 4) = 70 * c + 66 := by rw [e1, z32_id (by omega) (by omega)]; omega
  -- the four bytes of the check
  have last : ∀ (s v : Int), (s = 0 ∨ s = 1) → (s = 1 ↔ ∃ k, 0 ≤ k ∧ k < 70 ∧ H 40 (70 * c + k) ≠ 0) → v = cRc (fun k => H 40 (70 * c + k) % 256) 0 66 0 → zEnds 118 211 127 [(29, 35), (0, c), (0, v), (0, s), (0, 0), (9, 0)] [] (t, L, H) Qr Qt := by
    intro s v s01 hs hv
    have st : ∀ (k v' : Int), 0 ≤ k → k < 4 → zEnds 118 211 127 [(29, 35), (0, c), (0, zxor v' (zshl (H 40 (70 * c + (66 + k)) % 256) (8 * k))), (0, s), (0, k + 1), (9, 0)] [] (t, L, H) Qr Qt → zEnds 118 211 127 [(29, 35), (0, c), (0, v'), (0, s), (0, k), (9, 0)] [] (t, L, H) Qr Qt := fun k v' k0 k1 q => by
      refine v_211_127 ⟨fun u => by omega, fun _ => ?_⟩
      rw [e2, z32_id (x := 70 * c + 66 + k) (by omega) (by omega), zand_255, z32_id (x := 8 * k) (by omega) (by omega), z32_id (x := k + 1) (by omega) (by omega), show 70 * c + 66 + k = 70 * c + (66 + k) by omega]
      exact ⟨by show 0 ≤ 70 * c + (66 + k) ∧ 70 * c + (66 + k) < L 40; omega, q⟩
    refine st 0 v (by decide) (by decide) (st 1 _ (by decide) (by decide) (st 2 _ (by decide) (by decide) (st 3 _ (by decide) (by decide) (v_211_127 ⟨fun _ => ?_, fun u => absurd (by decide) u⟩))))
    have cw : zxor (zxor (zxor (zxor v (zshl (H 40 (70 * c + (66 + 0)) % 256) (8 * 0))) (zshl (H 40 (70 * c + (66 + 1)) % 256) (8 * 1))) (zshl (H 40 (70 * c + (66 + 2)) % 256) (8 * 2))) (zshl (H 40 (70 * c + (66 + 3)) % 256) (8 * 3)) = 0 ↔ v = cW (fun k => H 40 (70 * c + k) % 256) := cW_xor (by rw [hv]; exact cRc_32 _ _ _ rfl)
    refine ⟨fun u => ⟨Or.inl rfl, h0 (fun q => ?_)⟩, fun u => ⟨fun y => ⟨Or.inl rfl, h0 (fun q => y (cw.mpr (by rw [hv]; exact q.2)))⟩, fun y => ⟨Or.inr rfl, h1 ⟨hs.mp (by omega), ?_⟩⟩⟩⟩
    · have := hs.mpr q.1
      omega
    · rw [← hv]
      refine cw.mp ?_
      by_cases z : zxor (zxor (zxor (zxor v (zshl (H 40 (70 * c + (66 + 0)) % 256) (8 * 0))) (zshl (H 40 (70 * c + (66 + 1)) % 256) (8 * 1))) (zshl (H 40 (70 * c + (66 + 2)) % 256) (8 * 2))) (zshl (H 40 (70 * c + (66 + 3)) % 256) (8 * 3)) = 0
      · exact z
      · exact absurd z y
  -- the 66 bytes
  have mid : ∀ (s : Int), (s = 0 ∨ s = 1) → (s = 1 ↔ ∃ k, 0 ≤ k ∧ k < 70 ∧ H 40 (70 * c + k) ≠ 0) → ∀ (n : Nat) (k : Int), 0 ≤ k → k + n = 66 → zEnds 118 211 54 [(29, 35), (0, c), (0, cRc (fun k => H 40 (70 * c + k) % 256) 0 k.toNat 0), (0, s), (0, 70 * c + k), (9, 0)] [] (t, L, H) Qr Qt := by
    intro s s01 hs n
    induction n with
    | zero =>
      intro k k0 k1
      have ek : k = 66 := by omega
      rw [ek]
      refine v_211_54 ⟨fun _ => last s _ s01 hs rfl, fun u => absurd ?_ u⟩
      rw [e2]
      omega
    | succ n ih =>
      intro k k0 k1
      refine v_211_54 ⟨fun u => absurd u (by rw [e2]; omega), fun _ => ⟨by show 0 ≤ 70 * c + k ∧ 70 * c + k < L 40; omega, ?_⟩⟩
      show zEnds 118 211 85 [(29, 35), (0, c), (0, zxor (cRc (fun k => H 40 (70 * c + k) % 256) 0 k.toNat 0) (zand (H 40 (70 * c + k)) 255)), (0, s), (0, 70 * c + k), (0, 0)] [] (t, L, H) Qr Qt
      rw [zand_255]
      have st : ∀ (v i : Int), 0 ≤ i → i < 8 → zEnds 118 211 85 [(29, 35), (0, c), (0, zs1 v), (0, s), (0, 70 * c + k), (0, i + 1)] [] (t, L, H) Qr Qt → zEnds 118 211 85 [(29, 35), (0, c), (0, v), (0, s), (0, 70 * c + k), (0, i)] [] (t, L, H) Qr Qt := fun v i i0 i1 q => by
        refine v_211_85 ⟨fun u => by omega, fun _ => ?_⟩
        rw [z32_id (x := i + 1) (by omega) (by omega)]
        unfold zs1 at q
        refine ⟨fun u => ?_, fun u => ?_⟩
        · rw [if_pos u] at q; exact q
        · rw [if_neg u] at q; exact q
      refine st _ 0 (by decide) (by decide) (st _ 1 (by decide) (by decide) (st _ 2 (by decide) (by decide) (st _ 3 (by decide) (by decide) (st _ 4 (by decide) (by decide) (st _ 5 (by decide) (by decide) (st _ 6 (by decide) (by decide) (st _ 7 (by decide) (by decide) (v_211_85 ⟨fun _ => ?_, fun u => absurd (by decide) u⟩))))))))
      have e := cRc_snoc (D := fun k => H 40 (70 * c + k) % 256) k.toNat 0 0
      rw [show (0 : Int) + ((k.toNat : Nat) : Int) = k by omega, show k.toNat + 1 = (k + 1).toNat by omega] at e
      have q := ih (k + 1) (by omega) (by omega)
      rw [e] at q
      rw [z32_id (x := 70 * c + k + 1) (by omega) (by omega), show 70 * c + k + 1 = 70 * c + (k + 1) by omega]
      exact q
  -- whether there is any
  have any : ∀ (n : Nat) (k s : Int), 0 ≤ k → k + n = 70 → (s = 0 ∨ s = 1) → (s = 1 ↔ ∃ i, 0 ≤ i ∧ i < k ∧ H 40 (70 * c + i) ≠ 0) → zEnds 118 211 10 [(29, 35), (0, c), (0, 0), (0, s), (0, 70 * c + k), (9, 0)] [] (t, L, H) Qr Qt := by
    intro n
    induction n with
    | zero =>
      intro k s k0 k1 s01 hs
      have ek : k = 70 := by omega
      rw [ek] at hs
      refine v_211_10 ⟨fun _ => ?_, fun u => absurd (by rw [e1]; omega) u⟩
      rw [e70]
      have q := mid s s01 hs 66 0 (by decide) (by decide)
      rw [Int.add_zero] at q
      exact q
    | succ n ih =>
      intro k s k0 k1 s01 hs
      refine v_211_10 ⟨fun u => absurd u (by rw [e1]; omega), fun _ => ?_⟩
      rw [z32_id (x := 70 * c + k + 1) (by omega) (by omega), show 70 * c + k + 1 = 70 * c + (k + 1) by omega]
      have yes : (∃ i, 0 ≤ i ∧ i < k + 1 ∧ H 40 (70 * c + i) ≠ 0) → zEnds 118 211 10 [(29, 35), (0, c), (0, 0), (0, 1), (0, 70 * c + (k + 1)), (9, 0)] [] (t, L, H) Qr Qt := fun q => ih (k + 1) 1 (by omega) (by omega) (Or.inr rfl) ⟨fun _ => q, fun _ => rfl⟩
      refine ⟨fun u => yes ?_, fun u => ⟨by show 0 ≤ 70 * c + k ∧ 70 * c + k < L 40; omega, fun z => ih (k + 1) 0 (by omega) (by omega) (Or.inl rfl) ⟨fun v => absurd v (by decide), fun v => ?_⟩, fun z => yes ⟨k, k0, by omega, z⟩⟩⟩
      · obtain ⟨i, i0, i1, i2⟩ := hs.mp (by omega)
        exact ⟨i, i0, by omega, i2⟩
      · obtain ⟨i, i0, i1, i2⟩ := v
        by_cases ci : i = k
        · rw [ci] at i2; exact absurd z i2
        · have := hs.mpr ⟨i, i0, by omega, i2⟩
          omega
  refine v_211 ?_
  rw [e70]
  have q := any 70 0 0 (by decide) (by decide) (Or.inl rfl) ⟨fun v => absurd v (by decide), fun v => by obtain ⟨i, i0, i1, -⟩ := v; omega⟩
  rw [Int.add_zero] at q
  exact q
end FLAW
