/-! The reference: inodes, owners, bytes of files. -/
def mA (d w r : Int) (G : zHp) (A : aSt) (L : Int → Int) (H : zHp) : Prop := mS d w r L H ∧ (∀ j, 0 ≤ j → j < 1280 → H 45 j = A.1 j) ∧ (∀ j, 0 ≤ j → j < 768 → H 46 j = A.2.1 j) ∧ (∀ j, 0 ≤ j → j < 49152 → H 47 j = A.2.2 j) ∧ ∀ q i, q ≠ 45 → q ≠ 46 → q ≠ 47 → H q i = G q i
/-- owners: those of the first blocks, and no numbers below 0 -/
def aP (O : Int → Int) : Prop := (∀ b, 0 ≤ b → b < 59 → 0 < O b) ∧ ∀ b, 59 ≤ b → b < 768 → 0 ≤ O b
section MFS
variable {d w r : Int} {t : Nat} {L : Int → Int} {H G : zHp} {Qr Qt : Int → zS → Prop} {N O W : Int → Int} {i k v : Int} {A : aSt}
theorem mA.nd (h : mA d w r G (N, O, W) L H) {j v : Int} : mA d w r G (bU N j v, O, W) L (zupd H 45 j v) := by
  refine ⟨h.1.upd (by omega), fun x x0 x1 => ?_, fun x x0 x1 => by rw [zupd_ne (by decide)]; exact h.2.2.1 x x0 x1, fun x x0 x1 => by rw [zupd_ne (by decide)]; exact h.2.2.2.1 x x0 x1, fun q x h1 h2 h3 => by rw [zupd_ne h1]; exact h.2.2.2.2 q x h1 h2 h3⟩
  show zupd H 45 j v 45 x = bU N j v x
  by_cases c : x = j
  · rw [c, zupd_at, bU_at]
  · rw [zupd_no (fun u => c u.2), bU_ne c]; exact h.2.1 x x0 x1
theorem mA.od (h : mA d w r G (N, O, W) L H) {j v : Int} : mA d w r G (N, bU O j v, W) L (zupd H 46 j v) := by
  refine ⟨h.1.upd (by omega), fun x x0 x1 => by rw [zupd_ne (by decide)]; exact h.2.1 x x0 x1, fun x x0 x1 => ?_, fun x x0 x1 => by rw [zupd_ne (by decide)]; exact h.2.2.2.1 x x0 x1, fun q x h1 h2 h3 => by rw [zupd_ne h2]; exact h.2.2.2.2 q x h1 h2 h3⟩
  show zupd H 46 j v 46 x = bU O j v x
  by_cases c : x = j
  · rw [c, zupd_at, bU_at]
  · rw [zupd_no (fun u => c u.2), bU_ne c]; exact h.2.2.1 x x0 x1
theorem mA.wd (h : mA d w r G (N, O, W) L H) {j v : Int} : mA d w r G (N, O, bU W j v) L (zupd H 47 j v) := by
  refine ⟨h.1.upd (by omega), fun x x0 x1 => by rw [zupd_ne (by decide)]; exact h.2.1 x x0 x1, fun x x0 x1 => by rw [zupd_ne (by decide)]; exact h.2.2.1 x x0 x1, fun x x0 x1 => ?_, fun q x h1 h2 h3 => by rw [zupd_ne h3]; exact h.2.2.2.2 q x h1 h2 h3⟩
  show zupd H 47 j v 47 x = bU W j v x
  by_cases c : x = j
  · rw [c, zupd_at, bU_at]
  · rw [zupd_no (fun u => c u.2), bU_ne c]; exact h.2.2.2.1 x x0 x1
theorem mA.l (h : mA d w r G A L H) : L 45 = 1280 ∧ L 46 = 768 ∧ L 47 = 49152 := ⟨h.1.2.2.1.1, h.1.2.2.1.2.1, h.1.2.2.1.2.2.1⟩
theorem m_kind (h : mA d w r G A L H) (hi : 0 ≤ i ∧ i < 64) (hQ : Qr (A.1 (20 * i)) (t, L, H)) : zEnds 118 224 0 [(29, 35), (0, i)] [] (t, L, H) Qr Qt := by
  have hl := h.l
  refine v_224 ?_
  rw [z32_id (x := 20 * i) (by omega) (by omega)]
  refine ⟨⟨by omega, by show _ < L 45; omega⟩, ?_⟩
  show Qr (H 45 (20 * i)) (t, L, H)
  rw [h.2.1 _ (by omega) (by omega)]
  exact hQ
theorem m_sizeOf (h : mA d w r G A L H) (hi : 0 ≤ i ∧ i < 64) (hQ : Qr (A.1 (20 * i + 1)) (t, L, H)) : zEnds 118 225 0 [(29, 35), (0, i)] [] (t, L, H) Qr Qt := by
  have hl := h.l
  refine v_225 ?_
  rw [z32_id (x := 20 * i) (by omega) (by omega), z32_id (x := 20 * i + 1) (by omega) (by omega)]
  refine ⟨⟨by omega, by show _ < L 45; omega⟩, ?_⟩
  show Qr (H 45 (20 * i + 1)) (t, L, H)
  rw [h.2.1 _ (by omega) (by omega)]
  exact hQ
theorem m_blockOf {B : Int} (h : mA d w r G A L H) (ha : aI B A.1 i) (hB : B ≤ 768) (hi : 0 ≤ i ∧ i < 64) (hk : 0 ≤ k ∧ k < aTot A.1 i) (hQ : Qr (aBlk A.1 i k) (t, L, H)) : zEnds 118 226 0 [(29, 35), (0, i), (0, k), (9, 0), (9, 0), (9, 0)] [] (t, L, H) Qr Qt := by
  have hl := h.l
  have hc := ha.2.2.1
  have key : ∀ (m : Nat) (e k : Int), 0 ≤ e → e + m = A.1 (20 * i + 2) → 0 ≤ k → k < gSum (fun e => A.1 (20 * i + 4 + 2 * e)) e m → k ≤ 100000 → Qr (aBk A.1 i m e k) (t, L, H) → zEnds 118 226 11 [(29, 35), (9, 0), (9, 0), (0, 20 * i), (0, k), (0, e)] [] (t, L, H) Qr Qt := by
    intro m
    induction m with
    | zero =>
      intro e k e1 e2 k1 k2
      have k2 : k < 0 := k2
      omega
    | succ m ih =>
      intro e k e1 e2 k1 k2 k3 hq
      have k2 : k < A.1 (20 * i + 4 + 2 * e) + gSum (fun e => A.1 (20 * i + 4 + 2 * e)) (e + 1) m := k2
      have g := ha.2.2.2 e e1 (by omega)
      unfold aBk at hq
      refine v_226_11 ?_
      dsimp only
      rw [z32_id (x := 20 * i + 4) (by omega) (by omega), z32_id (x := 20 * i + 3) (by omega) (by omega), z32_id (x := 2 * e) (by omega) (by omega), z32_id (x := 20 * i + 4 + 2 * e) (by omega) (by omega), z32_id (x := 20 * i + 3 + 2 * e) (by omega) (by omega), h.2.1 (20 * i + 4 + 2 * e) (by omega) (by omega), h.2.1 (20 * i + 3 + 2 * e) (by omega) (by omega), z32_id (x := e + 1) (by omega) (by omega)]
      refine ⟨by omega, fun z => ⟨by omega, ?_⟩, fun z => ⟨by omega, ?_⟩⟩
      · rw [if_pos z] at hq
        rw [z32_id (by omega) (by omega)]
        exact hq
      · rw [if_neg z] at hq
        rw [z32_id (x := k - A.1 (20 * i + 4 + 2 * e)) (by omega) (by omega)]
        exact ih (e + 1) _ (by omega) (by omega) (by omega) (by omega) (by omega) hq
  have ht : aTot A.1 i ≤ 100000 := by
    have gle : ∀ (n : Nat) (a : Int), (∀ x, a ≤ x → x < a + n → A.1 (20 * i + 4 + 2 * x) ≤ 255) → gSum (fun e => A.1 (20 * i + 4 + 2 * e)) a n ≤ 255 * n := by
      intro n
      induction n with
      | zero => intro a _; exact Int.le_refl 0
      | succ n ih2 =>
        intro a hx
        have h1 := hx a (by omega) (by omega)
        have h2 := ih2 (a + 1) (fun x x1 x2 => hx x (by omega) (by omega))
        show A.1 (20 * i + 4 + 2 * a) + gSum (fun e => A.1 (20 * i + 4 + 2 * e)) (a + 1) n ≤ 255 * ((n + 1 : Nat) : Int)
        omega
    have := gle (A.1 (20 * i + 2)).toNat 0 (fun x x1 x2 => (ha.2.2.2 x x1 (by omega)).2.2.1)
    unfold aTot
    omega
  refine v_226 ?_
  rw [z32_id (x := 20 * i) (by omega) (by omega)]
  exact key (A.1 (20 * i + 2)).toNat 0 k (by omega) (by omega) hk.1 hk.2 (by omega) hQ
theorem m_blocksOf {B : Int} (h : mA d w r G A L H) (ha : aI B A.1 i) (hi : 0 ≤ i ∧ i < 64) (hQ : Qr (aTot A.1 i) (t, L, H)) : zEnds 118 227 0 [(29, 35), (0, i), (9, 0), (9, 0)] [] (t, L, H) Qr Qt := by
  have hl := h.l
  have hc := ha.2.2.1
  have key : ∀ (m : Nat) (c e : Int), 0 ≤ e → e + m = A.1 (20 * i + 2) → 0 ≤ c → c ≤ 255 * e → Qr (c + gSum (fun e => A.1 (20 * i + 4 + 2 * e)) e m) (t, L, H) → zEnds 118 227 4 [(29, 35), (0, i), (0, c), (0, e)] [] (t, L, H) Qr Qt := by
    intro m
    induction m with
    | zero =>
      intro c e e1 e2 c1 c2 hq
      have hq : Qr (c + 0) (t, L, H) := hq
      rw [Int.add_zero] at hq
      refine v_227_4 ?_
      dsimp only
      rw [z32_id (x := 20 * i) (by omega) (by omega), z32_id (x := 20 * i + 2) (by omega) (by omega), h.2.1 _ (by omega) (by omega)]
      exact ⟨by omega, fun _ => hq, fun z => by omega⟩
    | succ m ih =>
      intro c e e1 e2 c1 c2 hq
      have hq : Qr (c + (A.1 (20 * i + 4 + 2 * e) + gSum (fun e => A.1 (20 * i + 4 + 2 * e)) (e + 1) m)) (t, L, H) := hq
      have g := ha.2.2.2 e e1 (by omega)
      refine v_227_4 ?_
      dsimp only
      rw [z32_id (x := 20 * i) (by omega) (by omega), z32_id (x := 20 * i + 2) (by omega) (by omega), z32_id (x := 20 * i + 4) (by omega) (by omega), z32_id (x := 2 * e) (by omega) (by omega), z32_id (x := 20 * i + 4 + 2 * e) (by omega) (by omega), h.2.1 (20 * i + 2) (by omega) (by omega), h.2.1 (20 * i + 4 + 2 * e) (by omega) (by omega), z32_id (x := e + 1) (by omega) (by omega), z32_id (x := c + A.1 (20 * i + 4 + 2 * e)) (by omega) (by omega)]
      exact ⟨by omega, fun z => by omega, fun _ => ⟨by omega, ih _ (e + 1) (by omega) (by omega) (by omega) (by omega) (by rw [Int.add_assoc]; exact hq)⟩⟩
  refine v_227 (key (A.1 (20 * i + 2)).toNat 0 0 (by omega) (by omega) (by omega) (by omega) ?_)
  rw [Int.zero_add]
  exact hQ
theorem m_get {B : Int} (h : mA d w r G A L H) (ha : aI B A.1 i) (hB : B ≤ 768) (hi : 0 ≤ i ∧ i < 64) (hk : 0 ≤ k ∧ k < 64 * aTot A.1 i ∧ k ≤ 1000000) (hQ : Qr (aGet A i k) (t, L, H)) : zEnds 118 232 0 [(29, 35), (0, i), (0, k)] [] (t, L, H) Qr Qt := by
  have hl := h.l
  have g := aIn_rg ha (aBlk_in ha (k := k / 64) (by omega))
  refine v_232 ?_
  rw [zdiv_pos hk.1 (by omega) (by decide), zrem_pos hk.1]
  refine ⟨by decide, m_blockOf h ha hB hi (by omega) ⟨by decide, ?_⟩⟩
  dsimp only
  rw [z32_id (x := 64 * aBlk A.1 i (k / 64)) (by omega) (by omega), z32_id (x := 64 * aBlk A.1 i (k / 64) + k % 64) (by omega) (by omega), h.2.2.2.1 _ (by omega) (by omega)]
  exact ⟨by omega, hQ⟩
theorem m_put {B : Int} (h : mA d w r G A L H) (ha : aI B A.1 i) (hB : B ≤ 768) (hi : 0 ≤ i ∧ i < 64) (hk : 0 ≤ k ∧ k < 64 * aTot A.1 i ∧ k ≤ 1000000) (hQ : ∀ H', mA d w r G (aPut A i k v) L H' → Qr 0 (t, L, H')) : zEnds 118 233 0 [(29, 35), (0, i), (0, k), (0, v)] [] (t, L, H) Qr Qt := by
  have hl := h.l
  have g := aIn_rg ha (aBlk_in ha (k := k / 64) (by omega))
  refine v_233 ?_
  rw [zdiv_pos hk.1 (by omega) (by decide), zrem_pos hk.1]
  refine ⟨by decide, m_blockOf h ha hB hi (by omega) ⟨by decide, ?_⟩⟩
  dsimp only
  rw [z32_id (x := 64 * aBlk A.1 i (k / 64)) (by omega) (by omega), z32_id (x := 64 * aBlk A.1 i (k / 64) + k % 64) (by omega) (by omega)]
  obtain ⟨N, O, W⟩ := A
  exact ⟨by omega, hQ _ h.wd⟩
/-- bytes of files are bytes -/
def aBy (B : Int) (A : aSt) : Prop := ∀ b x, 59 ≤ b → b < B → 0 < A.2.1 b → 0 ≤ x → x < 64 → 0 ≤ A.2.2 (64 * b + x) ∧ A.2.2 (64 * b + x) < 256
theorem aBy.get {B : Int} (h : aBy B A) (hS : aS B A) (hi : 0 ≤ i ∧ i < 64) (hk : 0 ≤ k ∧ 64 * (k / 64) < A.1 (20 * i + 1)) : 0 ≤ aGet A i k ∧ aGet A i k < 256 := by
  have g := hS.blk hi (k := k / 64) (by omega)
  exact h (aBlk A.1 i (k / 64)) (k % 64) g.1.1 g.1.2 (by rw [g.2]; omega) (by omega) (by omega)
theorem m_nameAt {B e : Int} (h : mA d w r G A L H) (hS : aS B A) (hb : aBy B A) (hB : B ≤ 768) (hi : 0 ≤ i ∧ i < 64) (hk : A.1 (20 * i) = 2) (he : 0 ≤ e ∧ e < A.1 (20 * i + 1) / 4) (hQ : Qr (aNm A i e) (t, L, H)) : zEnds 118 234 0 [(29, 35), (0, i), (0, e)] [] (t, L, H) Qr Qt := by
  have ha := hS.1 i hi.1 hi.2
  have hs := ha.2.1
  have ht := (hS.2.1 i hi.1 hi.2).1
  have h6 := (hS.2.1 i hi.1 hi.2).2 hk
  refine v_234 ?_
  rw [z32_id (x := 4 * e) (by omega) (by omega), z32_id (x := 4 * e + 1) (by omega) (by omega)]
  refine m_get h ha hB hi (by omega) (m_get h ha hB hi (by omega) ?_)
  rw [zpair (hb.get hS hi (by omega)) (hb.get hS hi (by omega))]
  exact hQ
theorem m_entryOf {B nm : Int} (h : mA d w r G A L H) (hS : aS B A) (hb : aBy B A) (hB : B ≤ 768) (hi : 0 ≤ i ∧ i < 64) (hk : A.1 (20 * i) = 2) (hQ : Qr (aEnt A i nm) (t, L, H)) : zEnds 118 235 0 [(29, 35), (0, i), (0, nm), (9, 0)] [] (t, L, H) Qr Qt := by
  have ha := hS.1 i hi.1 hi.2
  have hs := ha.2.1
  have key : ∀ (m : Nat) (e : Int), 0 ≤ e → e + m = A.1 (20 * i + 1) / 4 → Qr (gFirst (fun e => aNm A i e = nm) e m) (t, L, H) → zEnds 118 235 2 [(29, 35), (0, i), (0, nm), (0, e)] [] (t, L, H) Qr Qt := by
    intro m
    induction m with
    | zero =>
      intro e e1 e2 hq
      refine v_235_2 (m_sizeOf h hi ⟨by decide, ?_⟩)
      rw [zdiv_pos hs.1 (by omega) (by decide)]
      exact ⟨fun _ => hq, fun z => by omega⟩
    | succ m ih =>
      intro e e1 e2 hq
      refine v_235_2 (m_sizeOf h hi ⟨by decide, ?_⟩)
      rw [zdiv_pos hs.1 (by omega) (by decide)]
      refine ⟨fun z => by omega, fun _ => m_nameAt h hS hb hB hi hk (by omega) ⟨fun z => ?_, fun z => ?_⟩⟩
      · rw [gFirst_no (P := fun e => aNm A i e = nm) z] at hq
        rw [z32_id (x := e + 1) (by omega) (by omega)]
        exact ih (e + 1) (by omega) (by omega) hq
      · rw [gFirst_yes (P := fun e => aNm A i e = nm) (Classical.not_not.mp z)] at hq
        exact hq
  exact v_235 (key (A.1 (20 * i + 1) / 4).toNat 0 (by omega) (by omega) hQ)
theorem m_inodeAt {B e : Int} (h : mA d w r G A L H) (hS : aS B A) (hB : B ≤ 768) (hi : 0 ≤ i ∧ i < 64) (hk : A.1 (20 * i) = 2) (he : 0 ≤ e ∧ e < A.1 (20 * i + 1) / 4) (hQ : Qr (aNo A i e) (t, L, H)) : zEnds 118 236 0 [(29, 35), (0, i), (0, e)] [] (t, L, H) Qr Qt := by
  have ha := hS.1 i hi.1 hi.2
  have hs := ha.2.1
  have ht := (hS.2.1 i hi.1 hi.2).1
  have h6 := (hS.2.1 i hi.1 hi.2).2 hk
  refine v_236 ?_
  rw [z32_id (x := 4 * e) (by omega) (by omega), z32_id (x := 4 * e + 2) (by omega) (by omega)]
  exact m_get h ha hB hi (by omega) hQ
theorem m_enters {B e nm ino : Int} (h : mA d w r G A L H) (hS : aS B A) (hB : B ≤ 768) (hi : 0 ≤ i ∧ i < 64) (hk : A.1 (20 * i) = 2) (he : 0 ≤ e ∧ e < A.1 (20 * i + 1) / 4) (hnm : 0 ≤ nm ∧ nm ≤ 65535) (hino : 0 ≤ ino ∧ ino < 256) (hQ : ∀ H', mA d w r G (aEnter A i e nm ino) L H' → Qr 0 (t, L, H')) : zEnds 118 237 0 [(29, 35), (0, i), (0, e), (0, nm), (0, ino)] [] (t, L, H) Qr Qt := by
  have ha := hS.1 i hi.1 hi.2
  have hs := ha.2.1
  have ht := (hS.2.1 i hi.1 hi.2).1
  have h6 := (hS.2.1 i hi.1 hi.2).2 hk
  have e8 : zshr nm 8 = nm / 256 := zshr_eq (n := 8) (by decide) (by omega) (by omega)
  unfold aEnter at hQ
  rw [show nm / 256 % 256 = nm / 256 by omega, show ino % 256 = ino by omega] at hQ
  refine v_237 ?_
  rw [z32_id (x := 4 * e) (by omega) (by omega), z32_id (x := 4 * e + 1) (by omega) (by omega), z32_id (x := 4 * e + 2) (by omega) (by omega), zand_255, e8]
  exact m_put h ha hB hi (by omega) (fun H1 g1 => m_put g1 ha hB hi (by show _ ∧ _ < 64 * aTot A.1 i ∧ _; omega) (fun H2 g2 => m_put g2 ha hB hi (by show _ ∧ _ < 64 * aTot A.1 i ∧ _; omega) hQ))
theorem m_badDirectory (h : mA d w r G A L H) (hi : 0 ≤ i ∧ i < 64) (hk : A.1 (20 * i) = 0 ∨ A.1 (20 * i) = 1 ∨ A.1 (20 * i) = 2) (hQ : Qr (aFault A i 2) (t, L, H)) : zEnds 118 240 0 [(29, 35), (0, i)] [] (t, L, H) Qr Qt := by
  unfold aFault at hQ
  refine v_240 (m_kind h hi ⟨fun z => m_kind h hi ⟨fun y => ?_, fun y => ?_⟩, fun z => ?_⟩)
  · rw [if_neg z, if_pos (by omega)] at hQ; exact hQ
  · rw [if_neg z, if_neg (by omega)] at hQ; exact hQ
  · rw [if_pos (Classical.not_not.mp z)] at hQ; exact hQ
theorem m_badFile (h : mA d w r G A L H) (hi : 0 ≤ i ∧ i < 64) (hk : A.1 (20 * i) = 0 ∨ A.1 (20 * i) = 1 ∨ A.1 (20 * i) = 2) (hQ : Qr (aFault A i 1) (t, L, H)) : zEnds 118 241 0 [(29, 35), (0, i)] [] (t, L, H) Qr Qt := by
  unfold aFault at hQ
  refine v_241 (m_kind h hi ⟨fun z => m_kind h hi ⟨fun y => ?_, fun y => ?_⟩, fun z => ?_⟩)
  · rw [if_neg z, if_pos (by omega)] at hQ; exact hQ
  · rw [if_neg z, if_neg (by omega)] at hQ; exact hQ
  · rw [if_pos (Classical.not_not.mp z)] at hQ; exact hQ
end MFS
