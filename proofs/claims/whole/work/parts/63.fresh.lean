/-! The class as new: the image, and all of it. -/
/-- no operation runs -/
theorem iT.rest {B : Int} {H : zHp} (h1 : H 18 1 = B) (h8 : H 18 8 = 0) (h23 : ∀ b, 0 ≤ b → b < B → H 23 b = 0) (hb : ∀ b, (H 22 b = 0 ∨ H 22 b = 1) ∧ (H 23 b = 0 ∨ H 23 b = 1)) : iT H B 0 [] H := by
  refine ⟨fun _ _ _ => rfl, h1, ⟨by omega, ?_, by decide⟩, fun i i0 i1 => by omega, fun b b0 b1 b2 => absurd (h23 b b0 b1) b2, fun b b0 b1 b2 j j0 j1 => rfl, hb, fun b b0 b1 => ⟨fun u => ⟨u, h23 b b0 b1⟩, fun u => u.1⟩, fun b _ _ _ u => Or.inl u⟩
  rw [h8]
  exact Int.le_refl 0
theorem iT.only {F : zHp} {B a c : Int} {H : zHp} (h : iT F B 2 [a, c] H) (hac : a ≠ c) (ha : 0 ≤ a ∧ a < B) (hc : 0 ≤ c ∧ c < B) {b : Int} (hb : 0 ≤ b ∧ b < B) (na : b ≠ a) (nc : b ≠ c) : H 23 b = 0 := by
  obtain ⟨-, -, ⟨h1, h2, -⟩, -, h5, -⟩ := h
  have h2 : H 18 8 + ((if H 23 a = 0 then 1 else 0) + ((if H 23 c = 0 then 1 else 0) + 0)) ≤ 2 := h2
  by_cases e : H 23 b = 0
  · exact e
  · obtain ⟨i, i0, i1, i2⟩ := h5 b hb.1 hb.2 e
    by_cases ea : H 23 a = 0
    · rw [if_pos ea] at h2
      by_cases ec : H 23 c = 0
      · rw [if_pos ec] at h2; omega
      · obtain ⟨j, j0, j1, j2⟩ := h5 c hc.1 hc.2 ec
        have : i ≠ j := fun u => nc (by rw [← i2, ← j2, u])
        rw [if_neg ec] at h2; omega
    · obtain ⟨j, j0, j1, j2⟩ := h5 a ha.1 ha.2 ea
      have d1 : i ≠ j := fun u => na (by rw [← i2, ← j2, u])
      rw [if_neg ea] at h2
      by_cases ec : H 23 c = 0
      · rw [if_pos ec] at h2; omega
      · obtain ⟨k, k0, k1, k2⟩ := h5 c hc.1 hc.2 ec
        have d2 : i ≠ k := fun u => nc (by rw [← i2, ← k2, u])
        have d3 : j ≠ k := fun u => hac (by rw [← j2, ← k2, u])
        rw [if_neg ec] at h2; omega
/-- the new tree: the root alone -/
def nN0 : Int → Int := bU (fun _ => 0) 0 2
def nO0 : Int → Int := fun b => if 0 ≤ b ∧ b < 59 then 100 else 0
def nA0 : aSt := (nN0, nO0, fun _ => 0)
theorem nN0_at {j : Int} : nN0 j = if j = 0 then 2 else 0 := rfl
/-- Image.layOut -/
theorem k_imageLay {B : Int} {t : Nat} {L : Int → Int} {H : zHp} {Qr Qt : Int → zS → Prop} (hl : iLen B L) (h1 : H 18 1 = B) (h8 : H 18 8 = 0) (hz : ∀ o j, (o = 19 ∨ o = 22 ∨ o = 23) → H o j = 0)
    (hQ : ∀ β H', aE B nA0 β → (∀ j, 0 ≤ j → zB8 H' 19 j = β j) → H' 18 8 = 0 → (∀ b, 0 ≤ b → b < B → H' 23 b = 0) → (∀ b, (H' 22 b = 0 ∨ H' 22 b = 1) ∧ (H' 23 b = 0 ∨ H' 23 b = 1)) → (∀ b, 0 ≤ b → b < B → H' 22 b = 0 → ∀ j, 0 ≤ j → j < 8 → H' 19 (8 * b + j) = 0) → (∀ b, 0 ≤ b → b < B → b ≠ 25 → b ≠ 57 → H' 22 b = 0) → (∀ q i, iFr q i → H' q i = H q i) → Qr 0 (t, L, H')) : zEnds 80 76 0 [(25, 18), (9, 0)] [] (t, L, H) Qr Qt := by
  have hB := hl.1
  have hT : iT H B 0 [] H := iT.rest h1 h8 (fun b _ _ => hz 23 b (by omega)) (fun b => ⟨Or.inl (hz 22 b (by omega)), Or.inl (hz 23 b (by omega))⟩)
  have z8 : ∀ j, 0 ≤ j → zB8 H 19 j = 0 := fun j _ => by
    unfold zB8
    rw [hz 19 _ (by omega)]
    show (0 : Int) % 18446744073709551616 / _ % 256 = 0
    rw [show (0 : Int) % 18446744073709551616 = 0 from rfl, Int.zero_ediv]
    rfl
  have h0 : fS H B 2 [57, 25] (fun _ => 0) L H := (fS.more (b := 57) (fS.more (b := 25) ⟨hl, hT, z8⟩ (by decide)) (by decide))
  have loop : ∀ (n : Nat) (b : Int) (β : Int → Int) (G : zHp), 0 ≤ b → b + n = 59 → fS H B 2 [57, 25] β L G → (∀ j, j < 3648 → β j = if j = 1600 then 2 else 0) → (∀ x, 0 ≤ x → x < 1024 → (mT β x ↔ x < b)) → zEnds 80 76 10 [(25, 18), (0, b)] [] (t, L, G) Qr Qt := by
    intro n
    induction n with
    | zero =>
      intro b β G b0 b1 g gβ gm
      have eb : b = 59 := by omega
      refine v_76_10 ⟨fun _ => i_forget g (fun H' a1 a2 a3 a4 => hQ β H' ⟨fun i i0 i1 => ?_, fun x x0 x1 => ?_, fun x k x0 x1 x2 k0 k1 => ?_⟩ (fun j hj => ?_) a1 a2 (fun x => ⟨?_, a3 x⟩) (fun x x0 x1 x2 j j0 j1 => ?_) (fun x x0 x1 n25 n57 => ?_) (fun q i hq => ?_)), fun z => absurd (by omega) z⟩
      · have n0 : ∀ x, nN0 (20 * i + x) = if 20 * i + x = 0 then 2 else 0 := fun x => nN0_at
        have n00 : nN0 (20 * i) = if 20 * i = 0 then 2 else 0 := nN0_at
        refine ⟨?_, ?_, ?_, ?_, ?_, fun e e0 e1 => ?_⟩
        · show β (1600 + 32 * i) = nN0 (20 * i)
          rw [gβ _ (by omega), n00]
          by_cases c : i = 0
          · rw [if_pos (by omega), if_pos (by omega)]
          · rw [if_neg (by omega), if_neg (by omega)]
        · show β (1600 + 32 * i + 1) = nN0 (20 * i + 2)
          rw [gβ _ (by omega), n0, if_neg (by omega), if_neg (by omega)]
        · show β (1600 + 32 * i + 2) = nN0 (20 * i + 1) % 256
          rw [gβ _ (by omega), n0, if_neg (by omega), if_neg (by omega)]; rfl
        · show β (1600 + 32 * i + 3) = nN0 (20 * i + 1) / 256 % 256
          rw [gβ _ (by omega), n0, if_neg (by omega), if_neg (by omega)]; rfl
        · rw [gβ _ (by omega), if_neg (by omega)]
        · have c2 : nA0.1 (20 * i + 2) = 0 := by
            show nN0 (20 * i + 2) = 0
            rw [n0, if_neg (by omega)]
          rw [c2]
          refine ⟨fun u => by omega, fun _ => ⟨?_, ?_, ?_⟩⟩
          · rw [gβ _ (by omega), if_neg (by omega)]
          · rw [gβ _ (by omega), if_neg (by omega)]
          · rw [gβ _ (by omega), if_neg (by omega)]
      · rw [gm x x0 x1, eb]
        show _ ↔ x < B ∧ 0 < nO0 x
        unfold nO0
        by_cases c : x < 59
        · rw [if_pos ⟨x0, c⟩]; omega
        · rw [if_neg (by omega)]; omega
      · have x2 : 0 < nO0 x := x2
        unfold nO0 at x2
        rw [if_neg (by omega)] at x2
        omega
      · rw [← g.2.2 j hj]
        unfold zB8
        rw [a4 19 _ (by decide) (fun u => absurd u (by decide))]
      · rw [a4 22 x (by decide) (fun u => absurd u (by decide))]; exact (g.2.1.2.2.2.2.2.2.1 x).1
      · rw [a4 22 x (by decide) (fun u => absurd u (by decide))] at x2
        have s0 := ((g.2.1.2.2.2.2.2.2.2.1 x x0 x1).mp x2).2
        rw [a4 19 _ (by decide) (fun u => absurd u (by decide)), g.2.1.2.2.2.2.2.1 x x0 x1 s0 j j0 j1]
        exact hz 19 _ (by omega)
      · rw [a4 22 x (by decide) (fun u => absurd u (by decide))]
        exact (g.2.1.2.2.2.2.2.2.2.1 x x0 x1).mpr ⟨hz 22 x (by omega), g.2.1.only (by decide) (by omega) (by omega) ⟨x0, x1⟩ n57 n25⟩
      · rw [a4 q i hq.2.2.1 hq.2.2.2.2.2.2]
        exact g.2.1.1 q i hq
    | succ n ih =>
      intro b β G b0 b1 g gβ gm
      have e57 : 57 + b / 512 = 57 := by omega
      refine v_76_10 ⟨fun z => by omega, fun _ => i_setTaken g (by omega) (Or.inr rfl) (by rw [e57]; exact List.mem_cons_self) (fun G' g' => ?_)⟩
      rw [z32_id (x := b + 1) (by omega) (by omega)]
      refine ih (b + 1) _ G' (by omega) (by omega) g' (fun j hj => by rw [mU_lo b0 hj]; exact gβ j hj) (fun x x0 x1 => ?_)
      rw [mT_mU (g.rg _ (by omega)) b0 x0 (Or.inr rfl)]
      by_cases c : x = b
      · rw [if_pos c]; omega
      · rw [if_neg c, gm x x0 x1]; omega
  refine v_76 (i_setByte h0 (by omega) (by omega) (List.mem_cons_of_mem _ List.mem_cons_self) (fun G g => loop 59 0 _ G (by omega) (by omega) g (fun j hj => rfl) (fun x x0 x1 => ?_)))
  unfold mT
  rw [bU_ne (by omega), Int.zero_ediv]
  omega
/-- Image.settle -/
theorem k_settle {B : Int} {t : Nat} {L : Int → Int} {H : zHp} {β : Int → Int} {Qr Qt : Int → zS → Prop} (h : fS H B 0 [] β L H)
    (hQ : ∀ H', (∀ b, 25 ≤ b → b < B → H' 22 b = 0) → (∀ b j, 25 ≤ b → b < B → 0 ≤ j → j < 8 → (iCh β H b → H' 20 (8 * b + j) = H 19 (8 * b + j)) ∧ (¬ iCh β H b → H' 20 (8 * b + j) = H 20 (8 * b + j))) → (∀ i, i < 200 → H' 20 i = H 20 i) → (∀ b, H' 22 b = 0 ∨ H' 22 b = H 22 b) → (∀ q i, q ≠ 20 → q ≠ 22 → H' q i = H q i) → Qr 0 (t, L, H')) : zEnds 80 95 0 [(25, 18), (9, 0)] [] (t, L, H) Qr Qt := by
  obtain ⟨hl0, l19, l20, l21, l22, l23, l24, l25⟩ := h.1
  have key : ∀ (n : Nat) (b : Int) (G : zHp), 25 ≤ b → b + n = B → (∀ q i, q ≠ 20 → q ≠ 22 → G q i = H q i) → (∀ x, b ≤ x → G 22 x = H 22 x) → (∀ x, 25 ≤ x → x < b → G 22 x = 0) → (∀ x, G 22 x = 0 ∨ G 22 x = H 22 x) → (∀ i, i < 200 → G 20 i = H 20 i) → (∀ i, 8 * b ≤ i → G 20 i = H 20 i) → (∀ x j, 25 ≤ x → x < b → 0 ≤ j → j < 8 → (iCh β H x → G 20 (8 * x + j) = H 19 (8 * x + j)) ∧ (¬ iCh β H x → G 20 (8 * x + j) = H 20 (8 * x + j))) → zEnds 80 95 3 [(25, 18), (0, b)] [] (t, L, G) Qr Qt := by
    intro n
    induction n with
    | zero =>
      intro b G b0 b1 g1 g2 g3 g4 g5 g6 g7
      have e1 : G 18 1 = B := by rw [g1 18 1 (by decide) (by decide)]; exact h.num
      exact v_95_3 ⟨fun _ => hQ G (fun x x0 x1 => g3 x x0 (by omega)) (fun x j x0 x1 j0 j1 => g7 x j x0 (by omega) j0 j1) g5 g4 g1, fun z => absurd (by show G 18 1 ≤ b; omega) z⟩
    | succ n ih =>
      intro b G b0 b1 g1 g2 g3 g4 g5 g6 g7
      have e1 : G 18 1 = B := by rw [g1 18 1 (by decide) (by decide)]; exact h.num
      have hG : fS G B 0 [] β L G := by
        refine ⟨h.1, iT.rest e1 ?_ (fun x x0 x1 => ?_) (fun x => ⟨?_, ?_⟩), fun j hj => ?_⟩
        · rw [g1 18 8 (by decide) (by decide)]
          have q := h.2.1.2.2.1
          have q2 : H 18 8 + 0 ≤ 0 := q.2.1
          omega
        · rw [g1 23 x (by decide) (by decide)]
          by_cases c : H 23 x = 0
          · exact c
          · obtain ⟨i, i0, i1, -⟩ := h.2.1.2.2.2.2.1 x x0 x1 c
            have q := h.2.1.2.2.1
            have q2 : H 18 8 + 0 ≤ 0 := q.2.1
            omega
        · rcases g4 x with u | u
          · exact Or.inl u
          · rw [u]; exact (h.2.1.2.2.2.2.2.2.1 x).1
        · rw [g1 23 x (by decide) (by decide)]; exact (h.2.1.2.2.2.2.2.2.1 x).2
        · rw [← h.2.2 j hj]
          unfold zB8
          rw [g1 19 _ (by decide) (by decide)]
      have ec : iCh β G b ↔ iCh β H b := by
        unfold iCh
        rw [g2 b (by omega)]
        constructor
        · intro ⟨u1, u2, j, j0, j1, j2⟩
          rw [g1 19 _ (by decide) (by decide), g6 _ (by omega)] at j2
          exact ⟨u1, u2, j, j0, j1, j2⟩
        · intro ⟨u1, u2, j, j0, j1, j2⟩
          refine ⟨u1, u2, j, j0, j1, ?_⟩
          rw [g1 19 _ (by decide) (by decide), g6 _ (by omega)]
          exact j2
      have mk : ∀ K : zHp, (∀ q i, q ≠ 20 → K q i = G q i) → (∀ i, ¬ (8 * b ≤ i ∧ i < 8 * b + 8) → K 20 i = G 20 i) → (∀ j, 0 ≤ j → j < 8 → (iCh β H b → K 20 (8 * b + j) = H 19 (8 * b + j)) ∧ (¬ iCh β H b → K 20 (8 * b + j) = H 20 (8 * b + j))) → zEnds 80 95 3 [(25, 18), (0, b + 1)] [] (t, L, zupd K 22 b 0) Qr Qt := by
        intro K k1 k2 k3
        refine ih (b + 1) _ (by omega) (by omega) (fun q i q20 q22 => by rw [zupd_ne q22, k1 q i q20]; exact g1 q i q20 q22) (fun x x0 => by rw [zupd_no (by omega), k1 22 x (by decide)]; exact g2 x (by omega)) (fun x x0 x1 => ?_) (fun x => ?_) (fun i hi => by rw [zupd_ne (by decide), k2 i (by omega)]; exact g5 i hi) (fun i hi => by rw [zupd_ne (by decide), k2 i (by omega)]; exact g6 i (by omega)) (fun x j x0 x1 j0 j1 => ?_)
        · by_cases c : x = b
          · rw [c, zupd_at]
          · rw [zupd_no (fun u => c u.2), k1 22 x (by decide)]; exact g3 x x0 (by omega)
        · by_cases c : x = b
          · rw [c, zupd_at]; exact Or.inl rfl
          · rw [zupd_no (fun u => c u.2), k1 22 x (by decide)]; exact g4 x
        · rw [zupd_ne (by decide)]
          by_cases c : x = b
          · rw [c]; exact k3 j j0 j1
          · rw [k2 _ (by omega)]; exact g7 x j x0 (by omega) j0 j1
      refine v_95_3 ⟨fun z => absurd z (by show ¬ G 18 1 ≤ b; omega), fun _ => ?_⟩
      rw [z32_id (x := b + 1) (by omega) (by omega)]
      refine i_isChanged hG (by omega) (fun y => ⟨fun u => absurd u (by decide), fun _ => ?_⟩) (fun y => ⟨fun _ => ⟨⟨by show 0 ≤ b ∧ b < L 22; omega, Or.inl rfl⟩, mk G (fun _ _ _ => rfl) (fun _ _ => rfl) (fun j j0 j1 => ⟨fun u => absurd (ec.mpr u) y, fun _ => g6 _ (by omega)⟩)⟩, fun u => absurd rfl u⟩)
      rw [z32_id (x := 8 * b) (by omega) (by omega)]
      refine v_82 ?_
      dsimp only
      rw [z32_id (x := 8 * b) (by omega) (by omega)]
      refine ⟨by omega, ⟨by omega, Or.inl rfl⟩, mk _ (fun q i hq => zcpy_ne hq) (fun i hi => ?_) (fun j j0 j1 => ⟨fun _ => ?_, fun u => absurd (ec.mp y) u⟩)⟩
      · unfold zcpy
        rw [if_neg (fun u => hi u.2)]
      · unfold zcpy
        rw [if_pos ⟨rfl, by omega, by omega⟩, show 8 * b + (8 * b + j - 8 * b) = 8 * b + j by omega]
        exact g1 19 _ (by decide) (by decide)
  exact v_95 (key (B - 25).toNat 25 H (by omega) (by omega) (fun _ _ _ _ => rfl) (fun _ _ => rfl) (fun x x0 x1 => by omega) (fun _ => Or.inr rfl) (fun _ _ => rfl) (fun _ _ => rfl) (fun x j x0 x1 => by omega))
