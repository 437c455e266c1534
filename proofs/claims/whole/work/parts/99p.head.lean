/-! The journal's head: its bytes there and here. -/
/-- byte k of a number -/
def sY (s k : Int) : Int := s / ((2 ^ (8 * k.toNat) : Nat) : Int) % 256
/-- the head's bytes -/
def hB (n s : Int) (T : Int → Int) (k : Int) : Int := if k < 4 then sY s k else if k = 4 then n else if k < 5 + 2 * n then (if (k - 5) % 2 = 0 then T ((k - 5) / 2) % 256 else T ((k - 5) / 2) / 256) else 0
theorem sY_mod {a b k : Int} (hk : 0 ≤ k ∧ k < 4) (h : z32 a = z32 b) : sY a k = sY b k := by
  unfold z32 at h
  unfold sY
  have c : k = 0 ∨ k = 1 ∨ k = 2 ∨ k = 3 := by omega
  rcases c with c | c | c | c
  · subst c
    show a / 1 % 256 = b / 1 % 256
    omega
  · subst c
    show a / 256 % 256 = b / 256 % 256
    omega
  · subst c
    show a / 65536 % 256 = b / 65536 % 256
    omega
  · subst c
    show a / 16777216 % 256 = b / 16777216 % 256
    omega
theorem sY_by {a k : Int} (hk : 0 ≤ k ∧ k < 4) : by8 a k = sY a k := by
  unfold sY by8
  have c : k = 0 ∨ k = 1 ∨ k = 2 ∨ k = 3 := by omega
  rcases c with c | c | c | c
  · subst c
    show a % 18446744073709551616 / 1 % 256 = a / 1 % 256
    omega
  · subst c
    show a % 18446744073709551616 / 256 % 256 = a / 256 % 256
    omega
  · subst c
    show a % 18446744073709551616 / 65536 % 256 = a / 65536 % 256
    omega
  · subst c
    show a % 18446744073709551616 / 16777216 % 256 = a / 16777216 % 256
    omega
theorem sY_sq {s : Int} {V : Int → Int} (h : ∀ k, 0 ≤ k → k < 4 → V k = sY s k) : jSq V = z32 s := by
  unfold jSq
  have a0 : V 0 = s / 1 % 256 := h 0 (by decide) (by decide)
  have a1 : V 1 = s / 256 % 256 := h 1 (by decide) (by decide)
  have a2 : V 2 = s / 65536 % 256 := h 2 (by decide) (by decide)
  have a3 : V 3 = s / 16777216 % 256 := h 3 (by decide) (by decide)
  rw [a0, a1, a2, a3]
  unfold z32
  omega
theorem hB_mod {n a b k : Int} {T T' : Int → Int} (hk : 0 ≤ k) (h : z32 a = z32 b) (e : ∀ i, 0 ≤ i → i < n → T i = T' i) : hB n a T k = hB n b T' k := by
  unfold hB
  by_cases c : k < 4
  · rw [if_pos c, if_pos c, sY_mod ⟨hk, c⟩ h]
  · rw [if_neg c, if_neg c]
    by_cases c2 : k = 4
    · rw [if_pos c2, if_pos c2]
    · rw [if_neg c2, if_neg c2]
      by_cases c3 : k < 5 + 2 * n
      · rw [if_pos c3, if_pos c3, e _ (by omega) (by omega)]
      · rw [if_neg c3, if_neg c3]
theorem zset_64 (x k v : Int) : z64 (zset x k v) = zset x k v := by
  unfold zset zlor
  exact z64_toInt _
theorem zupB_64 {H : zHp} {o i v q j : Int} (h : z64 (H q j) = H q j) : z64 (zupB H o i v q j) = zupB H o i v q j := by
  unfold zupB zupd
  by_cases c : q = o ∧ j = i / 8
  · rw [if_pos c]; exact zset_64 _ _ _
  · rw [if_neg c]; exact h
section HEAD
variable {d w r : Int} {t : Nat} {L : Int → Int} {H M X : zHp} {Qr Qt : Int → zS → Prop} {C : Int → Int → Int}
/-- Journal.setFour -/
theorem c_setFour {a v : Int} (ha : 0 ≤ a ∧ a ≤ 60) (l32 : L 32 = 8) (hv : z32 v = v) (hQ : ∀ H', (∀ q i, q ≠ 32 → H' q i = H q i) → (∀ j, z64 (H 32 j) = H 32 j → z64 (H' 32 j) = H' 32 j) → (∀ k, 0 ≤ k → zB8 H' 32 k = if a ≤ k ∧ k < a + 4 then sY v (k - a) else zB8 H 32 k) → Qr 0 (t, L, H')) : zEnds 80 143 0 [(28, 29), (0, a), (0, v), (9, 0)] [] (t, L, H) Qr Qt := by
  have key : ∀ (n : Nat) (i : Int) (G : zHp), 0 ≤ i → i + n = 4 → (∀ q i, q ≠ 32 → G q i = H q i) → (∀ j, z64 (H 32 j) = H 32 j → z64 (G 32 j) = G 32 j) → (∀ k, 0 ≤ k → zB8 G 32 k = if a ≤ k ∧ k < a + i then sY v (k - a) else zB8 H 32 k) → zEnds 80 143 2 [(28, 29), (0, a), (0, v), (0, i)] [] (t, L, G) Qr Qt := by
    intro n
    induction n with
    | zero =>
      intro i G i0 i1 e1 e2 e3
      have e : i = 4 := by omega
      subst e
      exact v_143_2 ⟨fun _ => hQ G e1 e2 e3, fun u => absurd (by decide) u⟩
    | succ n ih =>
      intro i G i0 i1 e1 e2 e3
      refine v_143_2 ⟨fun u => by omega, fun _ => ?_⟩
      have ei : z32 (i + 1) = i + 1 := z32_id (by omega) (by omega)
      have e8 : z32 (8 * i) = ((8 * i.toNat : Nat) : Int) := by rw [z32_id (by omega) (by omega)]; omega
      have ea : z32 (a + i) = a + i := z32_id (by omega) (by omega)
      have hv2 : -2147483648 ≤ v ∧ v ≤ 2147483647 := by unfold z32 at hv; omega
      rw [ei, e8, ea, zshr_eq (by omega) hv2.1 hv2.2]
      refine s_setOne (by decide) (by omega) (by show 8 * 0 + (a + i) < 8 * L 32; omega) (by show L 32 ≤ 1000000; omega) ?_
      rw [show 8 * 0 + (a + i) = a + i by omega]
      refine ih (i + 1) _ (by omega) (by omega) (fun q j hq => ?_) (fun j u => zupB_64 (e2 j u)) (fun k k0 => ?_)
      · show zupB G 32 (a + i) _ q j = _
        unfold zupB
        rw [zupd_ne hq]
        exact e1 q j hq
      · show zB8 (zupB G 32 (a + i) _) 32 k = _
        rw [zB8_set (by omega) k0, e3 k k0]
        by_cases c : k = a + i
        · rw [if_pos ⟨rfl, c⟩, if_pos (by omega), c, show a + i - a = i by omega]
          rfl
        · rw [if_neg (fun z => c z.2)]
          by_cases c2 : a ≤ k ∧ k < a + i
          · rw [if_pos c2, if_pos (by omega)]
          · rw [if_neg c2, if_neg (by omega)]
  exact v_143 (key 4 0 H (by decide) (by decide) (fun _ _ _ => rfl) (fun _ u => u) (fun k _ => by rw [if_neg (by omega)]))
/-- Journal.fillHead -/
theorem c_fillHead {n : Int} (h8 : cT8 L H) (l30 : L 30 = 24) (l31 : L 31 = 192) (l32 : L 32 = 8) (hn : 0 ≤ n ∧ n ≤ 24) (hT : ∀ i, 0 ≤ i → i < n → 0 ≤ H 30 i ∧ H 30 i < 65536) (hs : z32 (H 29 6) = H 29 6)
    (hQ : ∀ H', (∀ q i, q ≠ 32 → H' q i = H q i) → (∀ j, 0 ≤ j → j < 8 → z64 (H' 32 j) = H' 32 j) → (∀ k, 0 ≤ k → k < 64 → ¬ (59 ≤ k ∧ k < 63) → zB8 H' 32 k = hB n (H 29 6) (H 30) k) → Qr 0 (t, L, H')) : zEnds 80 142 0 [(28, 29), (0, n), (9, 0)] [] (t, L, H) Qr Qt := by
  refine v_142 (s_clear (by decide) (by decide) (by show (0 : Int) + 8 ≤ L 32; omega) (by omega) ?_)
  have f29 : zfil H 32 0 8 29 6 = H 29 6 := by unfold zfil; rw [if_neg (by omega)]
  show zEnds 80 143 0 [(28, 29), (0, 0), (0, zfil H 32 0 8 29 6), (9, 0)] [] _ _ _
  rw [f29]
  refine c_setFour (by decide) l32 hs (fun G g1 g2 g3 => ?_)
  refine s_setOne (by decide) (by decide) (by show (8 : Int) * 0 + 4 < 8 * L 32; omega) (by show L 32 ≤ 1000000; omega) ?_
  have key : ∀ (m : Nat) (i : Int) (K : zHp), 0 ≤ i → i + m = n → (∀ q i, q ≠ 32 → K q i = H q i) → (∀ j, 0 ≤ j → j < 8 → z64 (K 32 j) = K 32 j) → (∀ k, 0 ≤ k → k < 64 → zB8 K 32 k = if k < 4 then sY (H 29 6) k else if k = 4 then n else if k < 5 + 2 * i then (if (k - 5) % 2 = 0 then H 30 ((k - 5) / 2) % 256 else H 30 ((k - 5) / 2) / 256) else 0) → zEnds 80 142 31 [(28, 29), (0, n), (0, i)] [] (t, L, K) Qr Qt := by
    intro m
    induction m with
    | zero =>
      intro i K i0 i1 e1 e2 e3
      have e : i = n := by omega
      subst e
      refine v_142_31 ⟨fun _ => ⟨fun _ => hQ K e1 e2 (fun k k0 k1 _ => e3 k k0 k1), fun _ => ?_⟩, fun u => by omega⟩
      refine v_5 (s_shifted (by unfold cT8 at h8 ⊢; exact ⟨h8.1, fun j j0 j1 => (e1 (-8) j (by decide)).trans (h8.2 j j0 j1)⟩) (by rw [z32_id (by omega) (by omega)]; omega) (by omega) ?_)
      refine c_setFour (by decide) l32 (by unfold zxor; exact z32_toInt _) (fun G' k1 k2 k3 => hQ G' (fun q j hq => (k1 q j hq).trans (e1 q j hq)) (fun j j0 j1 => k2 j (e2 j j0 j1)) (fun k k0 kk nk => by rw [k3 k k0, if_neg (by omega)]; exact e3 k k0 kk))
    | succ m ih =>
      intro i K i0 i1 e1 e2 e3
      refine v_142_31 ⟨fun u => by omega, fun _ => ⟨by show 0 ≤ i ∧ i < L 30; omega, ?_⟩⟩
      have eT : K 30 i = H 30 i := e1 30 i (by decide)
      have hT2 := hT i i0 (by omega)
      show zEnds 80 1 0 [(11, 32), (0, 0), (0, z32 (5 + z32 (2 * i))), (0, K 30 i), (9, 0), (9, 0), (9, 0)] [] _ _ _
      rw [z32_id (x := 2 * i) (by omega) (by omega), z32_id (x := 5 + 2 * i) (by omega) (by omega), eT]
      refine s_setOne (by decide) (by omega) (by show 8 * 0 + (5 + 2 * i) < 8 * L 32; omega) (by show L 32 ≤ 1000000; omega) ⟨by show 0 ≤ i ∧ i < L 30; omega, ?_⟩
      have eT2 : zupB K 32 (8 * 0 + (5 + 2 * i)) (H 30 i) 30 i = H 30 i := by
        unfold zupB
        rw [zupd_ne (by decide)]
        exact eT
      show zEnds 80 1 0 [(11, 32), (0, 0), (0, z32 (5 + 2 * i + 1)), (0, zshr (zupB K 32 (8 * 0 + (5 + 2 * i)) (H 30 i) 30 i) 8), (9, 0), (9, 0), (9, 0)] [] _ _ _
      have sh : zshr (H 30 i) 8 = H 30 i / 256 := zshr_eq (n := 8) (by decide) (by omega) (by omega)
      rw [eT2, sh, z32_id (x := 5 + 2 * i + 1) (by omega) (by omega)]
      refine s_setOne (by decide) (by omega) (by show 8 * 0 + (5 + 2 * i + 1) < 8 * L 32; omega) (by show L 32 ≤ 1000000; omega) ?_
      rw [z32_id (x := i + 1) (by omega) (by omega)]
      refine ih (i + 1) _ (by omega) (by omega) (fun q j hq => ?_) (fun j j0 j1 => zupB_64 (zupB_64 (e2 j j0 j1))) (fun k k0 k1 => ?_)
      · show zupB (zupB K 32 _ _) 32 _ _ q j = _
        unfold zupB
        rw [zupd_ne hq, zupd_ne hq]
        exact e1 q j hq
      · show zB8 (zupB (zupB K 32 (8 * 0 + (5 + 2 * i)) (H 30 i)) 32 (8 * 0 + (5 + 2 * i + 1)) (H 30 i / 256)) 32 k = _
        rw [zB8_set (by omega) k0, zB8_set (by omega) k0, e3 k k0 k1]
        by_cases c1 : k = 8 * 0 + (5 + 2 * i + 1)
        · rw [if_pos ⟨rfl, c1⟩, if_neg (show ¬ k < 4 by omega), if_neg (show ¬ k = 4 by omega), if_pos (show k < 5 + 2 * (i + 1) by omega), if_neg (show ¬ (k - 5) % 2 = 0 by omega), show (k - 5) / 2 = i by omega]
          omega
        · rw [if_neg (fun z => c1 z.2)]
          by_cases c2 : k = 8 * 0 + (5 + 2 * i)
          · rw [if_pos ⟨rfl, c2⟩, if_neg (show ¬ k < 4 by omega), if_neg (show ¬ k = 4 by omega), if_pos (show k < 5 + 2 * (i + 1) by omega), if_pos (show (k - 5) % 2 = 0 by omega), show (k - 5) / 2 = i by omega]
          · rw [if_neg (fun z => c2 z.2)]
            by_cases c3 : k < 4
            · rw [if_pos c3, if_pos c3]
            · rw [if_neg c3, if_neg c3]
              by_cases c4 : k = 4
              · rw [if_pos c4, if_pos c4]
              · rw [if_neg c4, if_neg c4]
                by_cases c5 : k < 5 + 2 * i
                · rw [if_pos c5, if_pos (show k < 5 + 2 * (i + 1) by omega)]
                · rw [if_neg c5, if_neg (show ¬ k < 5 + 2 * (i + 1) by omega)]
  refine key n.toNat 0 _ (by decide) (by omega) (fun q i hq => ?_) (fun j j0 j1 => zupB_64 (g2 j ?_)) (fun k k0 k1 => ?_)
  · show zupB G 32 _ _ q i = _
    unfold zupB
    rw [zupd_ne hq, g1 q i hq]
    unfold zfil
    rw [if_neg (fun z => hq z.1)]
  · show z64 (zfil H 32 0 8 32 j) = zfil H 32 0 8 32 j
    unfold zfil
    rw [if_pos ⟨rfl, by omega, by omega⟩]
    rfl
  · show zB8 (zupB G 32 (8 * 0 + 4) n) 32 k = _
    rw [zB8_set (by omega) k0, g3 k k0]
    by_cases c : k = 8 * 0 + 4
    · rw [if_pos ⟨rfl, c⟩, if_neg (show ¬ k < 4 by omega), if_pos (show k = 4 by omega)]
      omega
    · rw [if_neg (fun z => c z.2)]
      by_cases c2 : k < 4
      · rw [if_pos (show 0 ≤ k ∧ k < 0 + 4 by omega), if_pos c2, show k - 0 = k by omega]
      · rw [if_neg (show ¬ (0 ≤ k ∧ k < 0 + 4) by omega), if_neg c2, if_neg (show ¬ k = 4 by omega), if_neg (show ¬ k < 5 + 2 * 0 by omega)]
        unfold zB8 zfil
        rw [if_pos ⟨rfl, by omega, by omega⟩]
        have : ∀ x : Nat, (0 : Int) % 18446744073709551616 / (x : Int) % 256 = 0 := fun x => by rw [show (0 : Int) % 18446744073709551616 = 0 from rfl, Int.zero_ediv]; rfl
        exact this _
/-- the head as DiskPoolModel.heads leaves it -/
def hdM (M : zHp) (n s : Int) : zHp := fun q i => if q = 53 ∧ 0 ≤ i ∧ i < 64 then hB n s (M 51) i else M q i
theorem hdM_ne {n s q i : Int} (h : q ≠ 53) : hdM M n s q i = M q i := by
  unfold hdM
  rw [if_neg (fun z => h z.1)]
theorem hdM_at {n s k : Int} (h : 0 ≤ k ∧ k < 64) : hdM M n s 53 k = hB n s (M 51) k := by
  unfold hdM
  rw [if_pos ⟨rfl, h.1, h.2⟩]
/-- DiskPoolModel.heads -/
theorem m_heads {n s : Int} (l51 : L 51 = 48) (l53 : L 53 = 64) (hn : 0 ≤ n ∧ n ≤ 24) (hT : ∀ i, 0 ≤ i → i < n → 0 ≤ M 51 i ∧ M 51 i < 65536)
    (hQ : zEnds 118 197 0 [(29, 35), (0, 0), (10, 53), (0, 0), (9, 0), (9, 0), (9, 0), (9, 0), (9, 0), (9, 0), (9, 0)] [] (t, L, hdM M n s) (fun v1 S1 => (v1 = 0 ∨ v1 = 1) ∧ Qr v1 S1) Qt) : zEnds 118 202 0 [(29, 35), (1, s), (9, 0), (0, n), (9, 0)] [] (t, L, M) Qr Qt := by
  have key3 : ∀ (m : Nat) (i : Int) (K : zHp), 0 ≤ i → i + m = n → (∀ q i, q ≠ 53 → K q i = M q i) → (∀ k, 0 ≤ k → k < 64 → K 53 k = if k < 4 then sY s k else if k = 4 then n else if k < 5 + 2 * i then (if (k - 5) % 2 = 0 then M 51 ((k - 5) / 2) % 256 else M 51 ((k - 5) / 2) / 256) else 0) → (∀ k, ¬ (0 ≤ k ∧ k < 64) → K 53 k = M 53 k) → zEnds 118 202 68 [(29, 35), (9, 0), (9, 0), (0, n), (0, i)] [] (t, L, K) Qr Qt := by
    intro m
    induction m with
    | zero =>
      intro i K i0 i1 e1 e3 e4
      have e : i = n := by omega
      subst e
      have eK : K = hdM M i s := funext (fun q => funext (fun k => by
        unfold hdM
        by_cases c : q = 53 ∧ 0 ≤ k ∧ k < 64
        · rw [if_pos c, c.1]
          exact e3 k c.2.1 c.2.2
        · rw [if_neg c]
          by_cases c2 : q = 53
          · rw [c2]
            exact e4 k (fun z => c ⟨c2, z⟩)
          · exact e1 q k c2))
      rw [eK]
      exact v_202_68 ⟨fun _ => hQ, fun u => by omega⟩
    | succ m ih =>
      intro i K i0 i1 e1 e3 e4
      have eT : K 51 i = M 51 i := e1 51 i (by decide)
      have hT2 := hT i i0 (by omega)
      have z1 : z32 (5 + z32 (2 * i)) = 5 + 2 * i := by rw [z32_id (x := 2 * i) (by omega) (by omega), z32_id (by omega) (by omega)]
      have z2 : z32 (6 + z32 (2 * i)) = 6 + 2 * i := by rw [z32_id (x := 2 * i) (by omega) (by omega), z32_id (by omega) (by omega)]
      refine v_202_68 ⟨fun u => by omega, fun _ => ⟨by show 0 ≤ i ∧ i < L 51; omega, by rw [z1]; show 0 ≤ 5 + 2 * i ∧ 5 + 2 * i < L 53; omega, by show 0 ≤ i ∧ i < L 51; omega, by rw [z2]; show 0 ≤ 6 + 2 * i ∧ 6 + 2 * i < L 53; omega, ?_⟩⟩
      have sh : zshr (M 51 i) 8 = M 51 i / 256 := zshr_eq (n := 8) (by decide) (by omega) (by omega)
      dsimp only
      rw [z1, z2, zupd_ne (show (51 : Int) ≠ 53 by decide), eT, sh, zand_255, z32_id (x := i + 1) (by omega) (by omega)]
      refine ih (i + 1) _ (by omega) (by omega) (fun q j hq => ?_) (fun k k0 k1 => ?_) (fun k nk => by rw [zupd_no (by omega), zupd_no (by omega)]; exact e4 k nk)
      · rw [zupd_ne hq, zupd_ne hq]
        exact e1 q j hq
      · by_cases c1 : k = 6 + 2 * i
        · rw [c1, zupd_at, if_neg (show ¬ 6 + 2 * i < 4 by omega), if_neg (show ¬ 6 + 2 * i = 4 by omega), if_pos (show 6 + 2 * i < 5 + 2 * (i + 1) by omega), if_neg (show ¬ (6 + 2 * i - 5) % 2 = 0 by omega), show (6 + 2 * i - 5) / 2 = i by omega]
        · rw [zupd_no (fun z => c1 z.2)]
          by_cases c2 : k = 5 + 2 * i
          · rw [c2, zupd_at, if_neg (show ¬ 5 + 2 * i < 4 by omega), if_neg (show ¬ 5 + 2 * i = 4 by omega), if_pos (show 5 + 2 * i < 5 + 2 * (i + 1) by omega), if_pos (show (5 + 2 * i - 5) % 2 = 0 by omega), show (5 + 2 * i - 5) / 2 = i by omega]
          · rw [zupd_no (fun z => c2 z.2), e3 k k0 k1]
            by_cases c3 : k < 4
            · rw [if_pos c3, if_pos c3]
            · rw [if_neg c3, if_neg c3]
              by_cases c4 : k = 4
              · rw [if_pos c4, if_pos c4]
              · rw [if_neg c4, if_neg c4]
                by_cases c5 : k < 5 + 2 * i
                · rw [if_pos c5, if_pos (show k < 5 + 2 * (i + 1) by omega)]
                · rw [if_neg c5, if_neg (show ¬ k < 5 + 2 * (i + 1) by omega)]
  have key2 : ∀ (m : Nat) (i : Int) (K : zHp), 0 ≤ i → i + m = 4 → (∀ q i, q ≠ 53 → K q i = M q i) → (∀ k, 0 ≤ k → k < 64 → K 53 k = if k < i then sY s k else 0) → (∀ k, ¬ (0 ≤ k ∧ k < 64) → K 53 k = M 53 k) → zEnds 118 202 27 [(29, 35), (1, s), (9, 0), (0, n), (0, i)] [] (t, L, K) Qr Qt := by
    intro m
    induction m with
    | zero =>
      intro i K i0 i1 e1 e3 e4
      have e : i = 4 := by omega
      subst e
      refine v_202_27 ⟨fun _ => ⟨by show (0 : Int) ≤ 4 ∧ 4 < L 53; omega, key3 n.toNat 0 _ (by decide) (by omega) (fun q j hq => by show zupd K 53 4 n q j = _; rw [zupd_ne hq]; exact e1 q j hq) (fun k k0 k1 => ?_) (fun k nk => by show zupd K 53 4 n 53 k = _; rw [zupd_no (by omega)]; exact e4 k nk)⟩, fun u => absurd (by decide) u⟩
      show zupd K 53 4 n 53 k = _
      by_cases c : k = 4
      · rw [c, zupd_at, if_neg (by decide), if_pos rfl]
      · rw [zupd_no (fun z => c z.2), e3 k k0 k1]
        by_cases c2 : k < 4
        · rw [if_pos c2, if_pos c2]
        · rw [if_neg c2, if_neg c2, if_neg c, if_neg (by omega)]
    | succ m ih =>
      intro i K i0 i1 e1 e3 e4
      refine v_202_27 ⟨fun u => by omega, fun _ => ⟨by show 0 ≤ i ∧ i < L 53; omega, ?_⟩⟩
      rw [by8_s ⟨i0, by omega⟩, sY_by ⟨i0, by omega⟩, z32_id (x := i + 1) (by omega) (by omega)]
      refine ih (i + 1) _ (by omega) (by omega) (fun q j hq => by show zupd K 53 i _ q j = _; rw [zupd_ne hq]; exact e1 q j hq) (fun k k0 k1 => ?_) (fun k nk => by show zupd K 53 i _ 53 k = _; rw [zupd_no (by omega)]; exact e4 k nk)
      show zupd K 53 i (sY s i) 53 k = _
      by_cases c : k = i
      · rw [c, zupd_at, if_pos (by omega)]
      · rw [zupd_no (fun z => c z.2), e3 k k0 k1]
        by_cases c2 : k < i
        · rw [if_pos c2, if_pos (by omega)]
        · rw [if_neg c2, if_neg (by omega)]
  have key1 : ∀ (m : Nat) (i : Int) (K : zHp), 0 ≤ i → i + m = 64 → (∀ q i, q ≠ 53 → K q i = M q i) → (∀ k, 0 ≤ k → k < i → K 53 k = 0) → (∀ k, ¬ (0 ≤ k ∧ k < 64) → K 53 k = M 53 k) → zEnds 118 202 3 [(29, 35), (1, s), (9, 0), (0, n), (0, i)] [] (t, L, K) Qr Qt := by
    intro m
    induction m with
    | zero =>
      intro i K i0 i1 e1 e3 e4
      refine v_202_3 ⟨fun _ => key2 4 0 K (by decide) (by decide) e1 (fun k k0 k1 => by rw [if_neg (by omega)]; exact e3 k k0 (by omega)) e4, fun u => by omega⟩
    | succ m ih =>
      intro i K i0 i1 e1 e3 e4
      refine v_202_3 ⟨fun u => by omega, fun _ => ⟨by show 0 ≤ i ∧ i < L 53; omega, ?_⟩⟩
      rw [z32_id (x := i + 1) (by omega) (by omega)]
      refine ih (i + 1) _ (by omega) (by omega) (fun q j hq => by show zupd K 53 i _ q j = _; rw [zupd_ne hq]; exact e1 q j hq) (fun k k0 k1 => ?_) (fun k nk => by show zupd K 53 i _ 53 k = _; rw [zupd_no (by omega)]; exact e4 k nk)
      show zupd K 53 i 0 53 k = 0
      by_cases c : k = i
      · rw [c, zupd_at]
      · rw [zupd_no (fun z => c z.2)]
        exact e3 k k0 (by omega)
  exact v_202 (key1 64 0 M (by decide) (by decide) (fun _ _ _ => rfl) (fun k k0 k1 => by omega) (fun _ _ => rfl))
end HEAD
