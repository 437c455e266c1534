/-! The constructors of the class, to where all is made. -/
theorem k_gcd_dec : (List.range 17).all (fun a => (List.range 17).all (fun b => Nat.beq a 0 || (((List.range (a + 1)).all (fun k => Nat.blt k 2 || !Nat.beq (a % k) 0 || !Nat.beq (b % k) 0)) == Nat.beq (Nat.gcd a b) 1))) = true := by decide +kernel
theorem k_noDiv {a b : Nat} {S : zS} {Qr Qt : Int → zS → Prop} (ha : 1 ≤ a ∧ a ≤ 16) (hb : b ≤ 16) (h1 : Nat.gcd a b = 1 → Qr 1 S) (h0 : Nat.gcd a b ≠ 1 → Qr 0 S) : zEnds 0 7 0 [(0, (a : Int)), (0, (b : Int)), (9, 0)] [] S Qr Qt := by
  have hd := List.all_eq_true.mp (List.all_eq_true.mp k_gcd_dec a (List.mem_range.mpr (by omega))) b (List.mem_range.mpr (by omega))
  have ha0 : Nat.beq a 0 = false := by
    cases hx : Nat.beq a 0 with
    | false => rfl
    | true => have := Nat.eq_of_beq_eq_true hx; omega
  rw [ha0, Bool.false_or] at hd
  have hd : ((List.range (a + 1)).all (fun k => Nat.blt k 2 || !Nat.beq (a % k) 0 || !Nat.beq (b % k) 0)) = Nat.beq (Nat.gcd a b) 1 := eq_of_beq hd
  have nb : ∀ x y : Nat, Nat.beq x y = false ↔ x ≠ y := fun x y => by
    constructor
    · intro h u
      rw [u, Nat.beq_refl] at h
      cases h
    · intro h
      cases hx : Nat.beq x y with
      | false => rfl
      | true => exact absurd (Nat.eq_of_beq_eq_true hx) h
  have key : ∀ (n k : Nat), 2 ≤ k → k + n = a + 1 → (∀ j, 2 ≤ j → j < k → ¬ (a % j = 0 ∧ b % j = 0)) → zEnds 0 7 2 [(0, (a : Int)), (0, (b : Int)), (0, (k : Int))] [] S Qr Qt := by
    intro n
    induction n with
    | zero =>
      intro k k0 k1 hall
      refine w_7_2 ⟨fun _ => ⟨Or.inr rfl, h1 ?_⟩, fun z => absurd (by omega) z⟩
      have : Nat.beq (Nat.gcd a b) 1 = true := by
        rw [← hd, List.all_eq_true]
        intro j hj
        have hj := List.mem_range.mp hj
        by_cases c : j < 2
        · have : Nat.blt j 2 = true := Nat.ble_eq_true_of_le c
          rw [this]; rfl
        · have h3 := hall j (by omega) (by omega)
          by_cases c2 : a % j = 0
          · have c3 : ¬ b % j = 0 := fun u => h3 ⟨c2, u⟩
            rw [(nb _ _).mpr c3]
            simp
          · rw [(nb _ _).mpr c2]
            simp
      exact Nat.eq_of_beq_eq_true this
    | succ n ih =>
      intro k k0 k1 hall
      have em : ∀ x : Nat, zrem (x : Int) (k : Int) = ((x % k : Nat) : Int) := fun x => by
        rw [zrem_pos (by omega)]
        exact (Int.natCast_emod _ _).symm
      refine w_7_2 ⟨fun z => by omega, fun _ => ?_⟩
      rw [em, em, z32_id (x := (k : Int) + 1) (by omega) (by omega)]
      have nx : ¬ (a % k = 0 ∧ b % k = 0) → zEnds 0 7 2 [(0, (a : Int)), (0, (b : Int)), (0, (k : Int) + 1)] [] S Qr Qt := fun c => ih (k + 1) (by omega) (by omega) (fun j j0 j1 => by
        by_cases e : j = k
        · rw [e]; exact c
        · exact hall j j0 (by omega))
      refine ⟨by omega, fun z => nx (fun u => z (by rw [u.1]; rfl)), fun z => ⟨by omega, fun y => nx (fun u => y (by rw [u.2]; rfl)), fun y => ⟨Or.inl rfl, h0 (fun u => ?_)⟩⟩⟩
      have z : a % k = 0 := by omega
      have y : b % k = 0 := by omega
      have h4 : Nat.beq (Nat.gcd a b) 1 = true := by rw [u]; rfl
      rw [← hd, List.all_eq_true] at h4
      have h5 := h4 k (List.mem_range.mpr (by omega))
      have h6 : Nat.blt k 2 = false := by
        cases hx : Nat.blt k 2 with
        | false => rfl
        | true => have := Nat.le_of_ble_eq_true hx; omega
      rw [z, y, h6] at h5
      cases h5
  exact w_7_0 (key (a - 1) 2 (by omega) (by omega) (fun j j0 j1 => by omega))
/-- the steps below t -/
def kul (d t : Nat) : List Nat := (List.range t).filter (fun x => Nat.ble 1 x && Nat.beq (Nat.gcd x d) 1)
theorem kul_yes {d t : Nat} (h0 : 1 ≤ t) (h : Nat.gcd t d = 1) : kul d (t + 1) = kul d t ++ [t] := by
  unfold kul
  rw [List.range_succ, List.filter_append]
  have : (Nat.ble 1 t && Nat.beq (Nat.gcd t d) 1) = true := by
    rw [Nat.ble_eq_true_of_le h0, h]; rfl
  rw [List.filter_cons_of_pos (p := fun x => Nat.ble 1 x && Nat.beq (Nat.gcd x d) 1) this, List.filter_nil]
theorem kul_no {d t : Nat} (h : Nat.gcd t d ≠ 1) : kul d (t + 1) = kul d t := by
  unfold kul
  rw [List.range_succ, List.filter_append]
  have : ¬ (Nat.ble 1 t && Nat.beq (Nat.gcd t d) 1) = true := by
    rw [Bool.and_eq_true]
    exact fun u => h (Nat.eq_of_beq_eq_true u.2)
  rw [List.filter_cons_of_neg (p := fun x => Nat.ble 1 x && Nat.beq (Nat.gcd x d) 1) this, List.filter_nil, List.append_nil]
theorem kul_len (d : Nat) : ∀ t, (kul d t).length ≤ t - 1 := by
  intro t
  induction t with
  | zero => exact Nat.le_refl 0
  | succ t ih =>
    by_cases c : Nat.gcd t d = 1
    · by_cases c0 : 1 ≤ t
      · rw [kul_yes c0 c, List.length_append]
        show (kul d t).length + 1 ≤ t + 1 - 1
        omega
      · have : t = 0 := by omega
        rw [this]
        exact Nat.le_refl 0
    · rw [kul_no c]; omega
/-- what Layout's constructor leaves -/
def kLay (d w r : Int) (H : zHp) : Prop := (H 1 0 = d ∧ H 1 1 = w ∧ H 1 2 = r ∧ H 1 3 = gGr d w ∧ H 1 4 = gPo d w ∧ H 1 5 = r * gGr d w ∧ H 1 6 = r * gPo d w ∧ H 1 7 = r * gGr d w * (w - 1) ∧ H 1 9 = gUc d) ∧ (∀ i : Int, 0 ≤ i → i < gUc d → H 2 i = gUn d i)
theorem k_layout {d w r : Int} {L : Int → Int} {H : zHp} {Qr Qt : Int → zS → Prop} (hk : gOK d w r) (h1 : ∀ j, H 1 j = 0) (h2 : ∀ j, H 2 j = 0) (hQ : ∀ H', kLay d w r H' → (∀ o j, o ≠ 1 → o ≠ 2 → H' o j = H o j) → Qr 0 (4, zlen L 2 d, H')) : zEnds 0 6 0 [(21, 1), (0, d), (0, w), (0, r), (9, 0)] [] (2, L, H) Qr Qt := by
  have hk' := hk
  obtain ⟨d1, d2, w1, w2, wd, r1, r2⟩ := hk
  obtain ⟨p1, p2, p3, p4⟩ := gPo_rg hk'
  have hsp := gSpots hk'
  have hB := gBl_le hk'
  have b1 : 0 ≤ r * gGr d w := Int.mul_nonneg (by omega) (by omega)
  have b2 : r * gGr d w ≤ 64 * gGr d w := Int.mul_le_mul_of_nonneg_right r2 (by omega)
  have b3 : 0 ≤ r * gGr d w * (w - 1) := Int.mul_nonneg b1 (by omega)
  have eg : zdiv (z32 (d - 1)) w = gGr d w := by
    rw [z32_id (by omega) (by omega), zdiv_pos (by omega) (by omega) (by omega)]
    rfl
  have ep : z32 (w * gGr d w) = gPo d w := by
    show z32 (gPo d w) = gPo d w
    exact z32_id (by omega) (by omega)
  refine w_6_0 ?_
  rw [eg, zupd_at, ep, zupd_no (i := 4) (j := 3) (by omega), zupd_at, z32_id (x := r * gGr d w) (by omega) (by omega), zupd_no (i := 5) (j := 4) (by omega), zupd_at, z32_id (x := r * gPo d w) (by omega) (by omega), zupd_no (i := 6) (j := 5) (by omega), zupd_at, z32_id (x := w - 1) (by omega) (by omega), z32_id (x := r * gGr d w * (w - 1)) (by omega) (by omega)]
  have hf : ∀ o j, o ≠ 1 → zupd (zupd (zupd (zupd (zupd (zupd (zupd (zupd H 1 0 d) 1 1 w) 1 2 r) 1 3 (gGr d w)) 1 4 (gPo d w)) 1 5 (r * gGr d w)) 1 6 (r * gPo d w)) 1 7 (r * gGr d w * (w - 1)) o j = H o j := fun o j ho => by
    rw [zupd_ne ho, zupd_ne ho, zupd_ne ho, zupd_ne ho, zupd_ne ho, zupd_ne ho, zupd_ne ho, zupd_ne ho]
  have e0 : zupd (zupd (zupd (zupd (zupd (zupd (zupd (zupd H 1 0 d) 1 1 w) 1 2 r) 1 3 (gGr d w)) 1 4 (gPo d w)) 1 5 (r * gGr d w)) 1 6 (r * gPo d w)) 1 7 (r * gGr d w * (w - 1)) 1 0 = d := by
    rw [zupd_no (by omega), zupd_no (by omega), zupd_no (by omega), zupd_no (by omega), zupd_no (by omega), zupd_no (by omega), zupd_no (by omega), zupd_at]
  have e1 : zupd (zupd (zupd (zupd (zupd (zupd (zupd (zupd H 1 0 d) 1 1 w) 1 2 r) 1 3 (gGr d w)) 1 4 (gPo d w)) 1 5 (r * gGr d w)) 1 6 (r * gPo d w)) 1 7 (r * gGr d w * (w - 1)) 1 1 = w := by
    rw [zupd_no (by omega), zupd_no (by omega), zupd_no (by omega), zupd_no (by omega), zupd_no (by omega), zupd_no (by omega), zupd_at]
  have e2 : zupd (zupd (zupd (zupd (zupd (zupd (zupd (zupd H 1 0 d) 1 1 w) 1 2 r) 1 3 (gGr d w)) 1 4 (gPo d w)) 1 5 (r * gGr d w)) 1 6 (r * gPo d w)) 1 7 (r * gGr d w * (w - 1)) 1 2 = r := by
    rw [zupd_no (by omega), zupd_no (by omega), zupd_no (by omega), zupd_no (by omega), zupd_no (by omega), zupd_at]
  have e3 : zupd (zupd (zupd (zupd (zupd (zupd (zupd (zupd H 1 0 d) 1 1 w) 1 2 r) 1 3 (gGr d w)) 1 4 (gPo d w)) 1 5 (r * gGr d w)) 1 6 (r * gPo d w)) 1 7 (r * gGr d w * (w - 1)) 1 3 = gGr d w := by
    rw [zupd_no (by omega), zupd_no (by omega), zupd_no (by omega), zupd_no (by omega), zupd_at]
  have e4 : zupd (zupd (zupd (zupd (zupd (zupd (zupd (zupd H 1 0 d) 1 1 w) 1 2 r) 1 3 (gGr d w)) 1 4 (gPo d w)) 1 5 (r * gGr d w)) 1 6 (r * gPo d w)) 1 7 (r * gGr d w * (w - 1)) 1 4 = gPo d w := by
    rw [zupd_no (by omega), zupd_no (by omega), zupd_no (by omega), zupd_at]
  have e5 : zupd (zupd (zupd (zupd (zupd (zupd (zupd (zupd H 1 0 d) 1 1 w) 1 2 r) 1 3 (gGr d w)) 1 4 (gPo d w)) 1 5 (r * gGr d w)) 1 6 (r * gPo d w)) 1 7 (r * gGr d w * (w - 1)) 1 5 = r * gGr d w := by
    rw [zupd_no (by omega), zupd_no (by omega), zupd_at]
  have e6 : zupd (zupd (zupd (zupd (zupd (zupd (zupd (zupd H 1 0 d) 1 1 w) 1 2 r) 1 3 (gGr d w)) 1 4 (gPo d w)) 1 5 (r * gGr d w)) 1 6 (r * gPo d w)) 1 7 (r * gGr d w * (w - 1)) 1 6 = r * gPo d w := by
    rw [zupd_no (by omega), zupd_at]
  have e7 : zupd (zupd (zupd (zupd (zupd (zupd (zupd (zupd H 1 0 d) 1 1 w) 1 2 r) 1 3 (gGr d w)) 1 4 (gPo d w)) 1 5 (r * gGr d w)) 1 6 (r * gPo d w)) 1 7 (r * gGr d w * (w - 1)) 1 7 = r * gGr d w * (w - 1) := zupd_at
  have e9 : zupd (zupd (zupd (zupd (zupd (zupd (zupd (zupd H 1 0 d) 1 1 w) 1 2 r) 1 3 (gGr d w)) 1 4 (gPo d w)) 1 5 (r * gGr d w)) 1 6 (r * gPo d w)) 1 7 (r * gGr d w * (w - 1)) 1 9 = 0 := by
    rw [zupd_no (by omega), zupd_no (by omega), zupd_no (by omega), zupd_no (by omega), zupd_no (by omega), zupd_no (by omega), zupd_no (by omega), zupd_no (by omega)]
    exact h1 9
  generalize zupd (zupd (zupd (zupd (zupd (zupd (zupd (zupd H 1 0 d) 1 1 w) 1 2 r) 1 3 (gGr d w)) 1 4 (gPo d w)) 1 5 (r * gGr d w)) 1 6 (r * gPo d w)) 1 7 (r * gGr d w * (w - 1)) = K at hf e0 e1 e2 e3 e4 e5 e6 e7 e9
  refine ⟨by omega, ⟨by omega, fun j => by rw [hf 2 j (by decide)]; exact h2 j⟩, ⟨rfl, rfl⟩, ?_⟩
  have hdn : d = ((d.toNat : Nat) : Int) := by omega
  have loop : ∀ (n t : Nat) (G : zHp), 1 ≤ t → t + n = d.toNat → (∀ o j, o ≠ 1 → o ≠ 2 → G o j = K o j) → (∀ j, j ≠ 9 → G 1 j = K 1 j) → G 1 9 = ((kul d.toNat t).length : Int) → (∀ i : Nat, i < (kul d.toNat t).length → G 2 i = (((kul d.toNat t).getD i 1 : Nat) : Int)) → zEnds 0 6 80 [(21, 1), (0, d), (9, 0), (9, 0), (0, (t : Int))] [] (4, zlen L 2 d, G) Qr Qt := by
    intro n
    induction n with
    | zero =>
      intro t G t0 t1 g1 g2 g3 g4
      have et : t = d.toNat := by omega
      rw [et] at g3 g4
      refine w_6_80 ⟨fun _ => hQ G ⟨⟨by rw [g2 0 (by decide)]; exact e0, by rw [g2 1 (by decide)]; exact e1, by rw [g2 2 (by decide)]; exact e2, by rw [g2 3 (by decide)]; exact e3, by rw [g2 4 (by decide)]; exact e4, by rw [g2 5 (by decide)]; exact e5, by rw [g2 6 (by decide)]; exact e6, by rw [g2 7 (by decide)]; exact e7, g3⟩, fun i i0 i1 => ?_⟩ (fun o j o1 o2 => by rw [g1 o j o1 o2]; exact hf o j o1), fun z => absurd (by omega) z⟩
      have i1 : i < ((kul d.toNat d.toNat).length : Int) := i1
      have g5 := g4 i.toNat (by omega)
      rw [show ((i.toNat : Nat) : Int) = i by omega] at g5
      exact g5
    | succ n ih =>
      intro t G t0 t1 g1 g2 g3 g4
      have hl := kul_len d.toNat t
      refine w_6_80 ⟨fun z => by omega, fun _ => ?_⟩
      rw [z32_id (x := (t : Int) + 1) (by omega) (by omega)]
      have g0 : zEnds 0 7 0 [(0, (t : Int)), (0, ((d.toNat : Nat) : Int)), (9, 0)] [] (4, zlen L 2 d, G) (fun v1 S1 => (v1 = 0 → zEnds 0 6 80 [(21, 1), (0, d), (9, 0), (9, 0), (0, (t : Int) + 1)] [] S1 Qr Qt) ∧ (¬ (v1 = 0) → (3 < S1.1) ∧ ((0 ≤ S1.2.2 1 9 ∧ S1.2.2 1 9 < S1.2.1 2) ∧ zEnds 0 6 80 [(21, 1), (0, d), (9, 0), (9, 0), (0, (t : Int) + 1)] [] (S1.1, S1.2.1, zupd (zupd S1.2.2 2 (S1.2.2 1 9) (t : Int)) 1 9 (z32 ((zupd S1.2.2 2 (S1.2.2 1 9) (t : Int)) 1 9 + 1))) Qr Qt))) Qt := by
        refine k_noDiv (by omega) (by omega) (fun c => ⟨fun u => absurd u (by decide), fun _ => ?_⟩) (fun c => ⟨fun _ => ?_, fun u => absurd rfl u⟩)
        · dsimp only
          rw [g3, zupd_ne (by decide), g3, z32_id (x := ((kul d.toNat t).length : Int) + 1) (by omega) (by omega)]
          refine ⟨by decide, ⟨by omega, ?_⟩, ?_⟩
          · unfold zlen
            rw [if_pos rfl]
            omega
          · refine ih (t + 1) _ (by omega) (by omega) (fun o j o1 o2 => ?_) (fun j hj => ?_) ?_ (fun i hi => ?_)
            · rw [zupd_ne o1, zupd_ne o2]; exact g1 o j o1 o2
            · rw [zupd_no (fun u => hj u.2), zupd_ne (by decide)]; exact g2 j hj
            · rw [zupd_at, kul_yes t0 c, List.length_append]
              show _ = (((kul d.toNat t).length + 1 : Nat) : Int)
              omega
            · rw [kul_yes t0 c, List.length_append] at hi
              have hi : i < (kul d.toNat t).length + 1 := hi
              rw [zupd_ne (by decide), kul_yes t0 c]
              by_cases ci : i = (kul d.toNat t).length
              · rw [ci, zupd_at, List.getD_eq_getElem?_getD, List.getElem?_append_right (Nat.le_refl _), Nat.sub_self]
                rfl
              · rw [zupd_no (fun u => ci (by omega)), List.getD_eq_getElem?_getD, List.getElem?_append_left (by omega), ← List.getD_eq_getElem?_getD]
                exact g4 i (by omega)
        · exact ih (t + 1) G (by omega) (by omega) g1 g2 (by rw [kul_no c]; exact g3) (by rw [kul_no c]; exact g4)
      rw [← hdn] at g0
      exact g0
  exact loop (d.toNat - 1) 1 K (by omega) (by omega) (fun _ _ _ _ => rfl) (fun _ _ => rfl) e9 (fun i hi => absurd hi (Nat.not_lt_zero _))
