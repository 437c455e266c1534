/-! The reference as new. -/
theorem zmd118 : zmdT 118 117 := by
  intro r ci k ft tg tm h h1 h2
  have hr : r < 100 := by
    cases hx : Nat.blt r 100 with
    | true => exact Nat.le_of_ble_eq_true hx
    | false =>
      have e : zfl r = none := by
        unfold zfl
        rw [hx]
        rfl
      rw [e] at h
      cases h
  have hd : (List.range 100).all (fun r => match zfl r with | some (_, _, ft, _, tm) => !(Nat.ble 10 ft && Nat.blt tm 118) || Nat.blt tm 117 | none => true) = true := by decide +kernel
  have h3 := List.all_eq_true.mp hd r (List.mem_range.mpr hr)
  rw [h] at h3
  have h3 : (!(Nat.ble 10 ft && Nat.blt tm 118) || Nat.blt tm 117) = true := h3
  rw [h1, h2] at h3
  exact Nat.le_of_ble_eq_true h3
theorem k_gcd {a b : Nat} (ha : 1 ≤ a ∧ a ≤ 16) (hb : b ≤ 16) : (∀ j, 2 ≤ j → j < a + 1 → ¬ (a % j = 0 ∧ b % j = 0)) ↔ Nat.gcd a b = 1 := by
  have hd := List.all_eq_true.mp (List.all_eq_true.mp k_gcd_dec a (List.mem_range.mpr (by omega))) b (List.mem_range.mpr (by omega))
  have ha0 : Nat.beq a 0 = false := by
    cases hx : Nat.beq a 0 with
    | false => rfl
    | true => have := Nat.eq_of_beq_eq_true hx; omega
  rw [ha0, Bool.false_or] at hd
  have hd : ((List.range (a + 1)).all (fun k => Nat.blt k 2 || !Nat.beq (a % k) 0 || !Nat.beq (b % k) 0)) = Nat.beq (Nat.gcd a b) 1 := eq_of_beq hd
  have nb : ∀ x y : Nat, Nat.beq x y = false ↔ x ≠ y := fun x y => by
    constructor
    · intro h u
      rw [u, Nat.beq_refl] at h
      cases h
    · intro h
      cases hx : Nat.beq x y with
      | false => rfl
      | true => exact absurd (Nat.eq_of_beq_eq_true hx) h
  constructor
  · intro hall
    have : Nat.beq (Nat.gcd a b) 1 = true := by
      rw [← hd, List.all_eq_true]
      intro j hj
      have hj := List.mem_range.mp hj
      by_cases c : j < 2
      · have : Nat.blt j 2 = true := Nat.ble_eq_true_of_le c
        rw [this]; rfl
      · have h3 := hall j (by omega) (by omega)
        by_cases c2 : a % j = 0
        · have c3 : ¬ b % j = 0 := fun u => h3 ⟨c2, u⟩
          rw [(nb _ _).mpr c3]
          simp
        · rw [(nb _ _).mpr c2]
          simp
    exact Nat.eq_of_beq_eq_true this
  · intro u k k0 k1 ⟨z, y⟩
    have h4 : Nat.beq (Nat.gcd a b) 1 = true := by rw [u]; rfl
    rw [← hd, List.all_eq_true] at h4
    have h5 := h4 k (List.mem_range.mpr k1)
    have h6 : Nat.blt k 2 = false := by
      cases hx : Nat.blt k 2 with
      | false => rfl
      | true => have := Nat.le_of_ble_eq_true hx; omega
    rw [z, y, h6] at h5
    cases h5
/-- the reference's numbers ahead of the steps -/
def mN0 (d w r : Int) (H : zHp) : Prop := H 35 1 = d ∧ H 35 2 = w ∧ H 35 3 = r ∧ H 35 4 = gGr d w
def mL0 (L : Int → Int) : Prop := (L 36 = 16 ∧ L 37 = 16 ∧ L 38 = 1040 ∧ L 39 = 1040 ∧ L 40 = 72800 ∧ L 41 = 1024 ∧ L 42 = 512 ∧ L 43 = 49152 ∧ L 44 = 64) ∧ (L 45 = 1280 ∧ L 46 = 768 ∧ L 47 = 49152 ∧ L 48 = 1280 ∧ L 49 = 768 ∧ L 50 = 49152 ∧ L 51 = 48 ∧ L 52 = 3072 ∧ L 53 = 64)
section MNEW
variable {d w r : Int} {L : Int → Int} {Qr Qt : Int → zS → Prop}
/-- the steps: units -/
theorem k_units {H : zHp} (hk : gOK d w r) (hL : mL0 L) (hN : mN0 d w r H) (h6 : H 35 6 = 0)
    (hQ : ∀ G, (∀ o j, o ≠ 36 → ¬ (o = 35 ∧ j = 6) → G o j = H o j) → G 35 6 = gUc d → (∀ i : Int, 0 ≤ i → i < gUc d → G 36 i = gUn d i) → zEnds 0 179 358 [(29, 35), (9, 0), (9, 0), (9, 0), (0, 0), (9, 0), (9, 0)] [] (117, L, G) Qr Qt) : zEnds 0 179 262 [(29, 35), (9, 0), (9, 0), (9, 0), (0, 1), (9, 0), (9, 0)] [] (117, L, H) Qr Qt := by
  obtain ⟨d1, d2, -⟩ := hk
  have hdn : d = ((d.toNat : Nat) : Int) := by omega
  have l36 := hL.1.1
  have loop : ∀ (n t : Nat) (G : zHp), 1 ≤ t → t + n = d.toNat → (∀ o j, o ≠ 36 → ¬ (o = 35 ∧ j = 6) → G o j = H o j) → G 35 6 = ((kul d.toNat t).length : Int) → (∀ i : Nat, i < (kul d.toNat t).length → G 36 i = (((kul d.toNat t).getD i 1 : Nat) : Int)) → zEnds 0 179 262 [(29, 35), (9, 0), (9, 0), (9, 0), (0, (t : Int)), (9, 0), (9, 0)] [] (117, L, G) Qr Qt := by
    intro n
    induction n with
    | zero =>
      intro t G t0 t1 g1 g3 g4
      have et : t = d.toNat := by omega
      rw [et] at g3 g4
      have e1 : G 35 1 = d := by rw [g1 35 1 (by decide) (by decide)]; exact hN.1
      refine w_179_262 ⟨fun _ => hQ G g1 g3 (fun i i0 i1 => ?_), fun z => absurd (by show G 35 1 ≤ t; omega) z⟩
      have i1 : i < ((kul d.toNat d.toNat).length : Int) := i1
      have g5 := g4 i.toNat (by omega)
      rw [show ((i.toNat : Nat) : Int) = i by omega] at g5
      exact g5
    | succ n ih =>
      intro t G t0 t1 g1 g3 g4
      have hl := kul_len d.toNat t
      have e1 : G 35 1 = d := by rw [g1 35 1 (by decide) (by decide)]; exact hN.1
      refine w_179_262 ⟨fun z => by have z : G 35 1 ≤ (t : Int) := z; omega, fun _ => ?_⟩
      have inner : ∀ (m k : Nat) (x5 : Int), 2 ≤ k → k + m = t + 1 → (x5 = 0 ∨ x5 = 1) → (x5 = 1 ↔ ∀ j, 2 ≤ j → j < k → ¬ (t % j = 0 ∧ d.toNat % j = 0)) → zEnds 0 179 277 [(29, 35), (9, 0), (9, 0), (9, 0), (0, (t : Int)), (0, x5), (0, (k : Int))] [] (117, L, G) Qr Qt := by
        intro m
        induction m with
        | zero =>
          intro k x5 k0 k1 x0 hx
          have ek : k = t + 1 := by omega
          rw [ek, k_gcd (by omega) (by omega)] at hx
          refine w_179_277 ⟨fun _ => ⟨fun z => ?_, fun z => ?_⟩, fun z => absurd (by omega) z⟩
          · have c := hx.mp (x0.resolve_left z)
            show (82 < 117) ∧ ((0 ≤ G 35 6 ∧ G 35 6 < L 36) ∧ zEnds 0 179 262 [(29, 35), (9, 0), (9, 0), (9, 0), (0, z32 ((t : Int) + 1)), (9, 0), (9, 0)] [] (117, L, zupd (zupd G 36 (G 35 6) t) 35 6 (z32 ((zupd G 36 (G 35 6) t) 35 6 + 1))) Qr Qt)
            rw [zupd_ne (show (35 : Int) ≠ 36 by decide), g3, z32_id (x := ((kul d.toNat t).length : Int) + 1) (by omega) (by omega), z32_id (x := (t : Int) + 1) (by omega) (by omega)]
            refine ⟨by decide, by omega, ih (t + 1) _ (by omega) (by omega) (fun o j o1 o2 => ?_) ?_ (fun i hi => ?_)⟩
            · rw [zupd_no o2, zupd_ne o1]; exact g1 o j o1 o2
            · rw [zupd_at, kul_yes t0 c, List.length_append]
              show _ = (((kul d.toNat t).length + 1 : Nat) : Int)
              omega
            · rw [kul_yes t0 c, List.length_append] at hi
              have hi : i < (kul d.toNat t).length + 1 := hi
              rw [zupd_ne (by decide), kul_yes t0 c]
              by_cases ci : i = (kul d.toNat t).length
              · rw [ci, zupd_at, List.getD_eq_getElem?_getD, List.getElem?_append_right (Nat.le_refl _), Nat.sub_self]
                rfl
              · rw [zupd_no (fun u => ci (by omega)), List.getD_eq_getElem?_getD, List.getElem?_append_left (by omega), ← List.getD_eq_getElem?_getD]
                exact g4 i (by omega)
          · have z : x5 = 0 := by omega
            have c : Nat.gcd t d.toNat ≠ 1 := fun u => by have := hx.mpr u; omega
            rw [z32_id (x := (t : Int) + 1) (by omega) (by omega)]
            exact ih (t + 1) G (by omega) (by omega) g1 (by rw [kul_no c]; exact g3) (by rw [kul_no c]; exact g4)
        | succ m ihm =>
          intro k x5 k0 k1 x0 hx
          have em : ∀ x : Nat, zrem (x : Int) (k : Int) = ((x % k : Nat) : Int) := fun x => by
            rw [zrem_pos (by omega)]
            exact (Int.natCast_emod _ _).symm
          refine w_179_277 ⟨fun z => by omega, fun _ => ?_⟩
          show (x5 = 0 → zEnds 0 179 277 [(29, 35), (9, 0), (9, 0), (9, 0), (0, (t : Int)), (0, 0), (0, z32 ((k : Int) + 1))] [] (117, L, G) Qr Qt) ∧ (¬ (x5 = 0) → ((k : Int) ≠ 0) ∧ ((zrem t k ≠ 0 → zEnds 0 179 277 [(29, 35), (9, 0), (9, 0), (9, 0), (0, (t : Int)), (0, 1), (0, z32 ((k : Int) + 1))] [] (117, L, G) Qr Qt) ∧ (¬ (zrem t k ≠ 0) → ((k : Int) ≠ 0) ∧ ((zrem (G 35 1) k = 0 → zEnds 0 179 277 [(29, 35), (9, 0), (9, 0), (9, 0), (0, (t : Int)), (0, 0), (0, z32 ((k : Int) + 1))] [] (117, L, G) Qr Qt) ∧ (¬ (zrem (G 35 1) k = 0) → zEnds 0 179 277 [(29, 35), (9, 0), (9, 0), (9, 0), (0, (t : Int)), (0, 1), (0, z32 ((k : Int) + 1))] [] (117, L, G) Qr Qt)))))
          rw [e1, hdn, em, em, z32_id (x := (k : Int) + 1) (by omega) (by omega)]
          have yes : x5 = 1 → ¬ (t % k = 0 ∧ d.toNat % k = 0) → zEnds 0 179 277 [(29, 35), (9, 0), (9, 0), (9, 0), (0, (t : Int)), (0, 1), (0, ((k : Int) + 1))] [] (117, L, G) Qr Qt := fun e c => ihm (k + 1) 1 (by omega) (by omega) (Or.inr rfl) ⟨fun _ j j0 j1 => by
            by_cases u : j = k
            · rw [u]; exact c
            · exact hx.mp e j j0 (by omega), fun _ => rfl⟩
          have no : (x5 = 0 ∨ (t % k = 0 ∧ d.toNat % k = 0)) → zEnds 0 179 277 [(29, 35), (9, 0), (9, 0), (9, 0), (0, (t : Int)), (0, 0), (0, ((k : Int) + 1))] [] (117, L, G) Qr Qt := fun e => ihm (k + 1) 0 (by omega) (by omega) (Or.inl rfl) ⟨fun u => absurd u (by decide), fun hall => by
            rcases e with e | e
            · have := hx.mpr (fun j j0 j1 => hall j j0 (by omega))
              omega
            · exact absurd e (hall k k0 (by omega))⟩
          refine ⟨fun z => no (Or.inl z), fun z => ⟨by omega, fun y => yes (by omega) (fun u => y (by rw [u.1]; rfl)), fun y => ⟨by omega, fun v => no (Or.inr ⟨by omega, by omega⟩), fun v => yes (by omega) (fun u => v (by rw [u.2]; rfl))⟩⟩⟩
      exact inner (t - 1) 2 1 (by omega) (by omega) (Or.inr rfl) ⟨fun _ j j0 j1 => by omega, fun _ => rfl⟩
  exact loop (d.toNat - 1) 1 H (by omega) (by omega) (fun _ _ _ _ => rfl) h6 (fun i hi => absurd hi (Nat.not_lt_zero _))
theorem mS.make {H : zHp} (hk : gOK d w r) (hL : mL0 L) (hN : mN0 d w r H) (h6 : H 35 6 = gUc d) (h36 : ∀ i : Int, 0 ≤ i → i < gUc d → H 36 i = gUn d i) : mS d w r L H := ⟨hk, hL.1, hL.2, ⟨hN.1, hN.2.1, hN.2.2.1, hN.2.2.2, h6⟩, h36⟩
/-- live and filled -/
theorem k_fills {H : zHp} (h : mS d w r L H) (hz : ∀ j, H 37 j = 0)
    (hQ : ∀ G, mS d w r L G → (∀ o j, o ≠ 37 → o ≠ 38 → G o j = H o j) → (∀ x, G 37 x = if 0 ≤ x ∧ x < d then 1 else 0) → (∀ x o, 0 ≤ x → x < d → 0 ≤ o → o ≤ r → G 38 (65 * x + o) = 1) → zEnds 0 179 415 [(29, 35), (9, 0), (9, 0), (9, 0), (0, 0), (9, 0), (9, 0)] [] (117, L, G) Qr Qt) : zEnds 0 179 358 [(29, 35), (9, 0), (9, 0), (9, 0), (0, 0), (9, 0), (9, 0)] [] (117, L, H) Qr Qt := by
  have hk := h.1
  obtain ⟨d1, d2, w1, w2, wd, r1, r2⟩ := hk
  have l37 : L 37 = 16 := h.2.1.2.1
  have l38 : L 38 = 1040 := h.2.1.2.2.1
  have loop : ∀ (n : Nat) (x : Int) (G : zHp), 0 ≤ x → x + n = d → mS d w r L G → (∀ o j, o ≠ 37 → o ≠ 38 → G o j = H o j) → (∀ y, G 37 y = if 0 ≤ y ∧ y < x then 1 else 0) → (∀ y o, 0 ≤ y → y < x → 0 ≤ o → o ≤ r → G 38 (65 * y + o) = 1) → zEnds 0 179 358 [(29, 35), (9, 0), (9, 0), (9, 0), (0, x), (9, 0), (9, 0)] [] (117, L, G) Qr Qt := by
    intro n
    induction n with
    | zero =>
      intro x G x0 x1 g0 g1 g2 g3
      have ex : x = d := by omega
      rw [ex] at g2 g3
      exact w_179_358 ⟨fun _ => hQ G g0 g1 g2 g3, fun z => absurd (by show G 35 1 ≤ x; rw [g0.2.2.2.1.1]; omega) z⟩
    | succ n ih =>
      intro x G x0 x1 g0 g1 g2 g3
      have inner : ∀ (m : Nat) (o : Int) (K : zHp), 0 ≤ o → o + m = r + 1 → mS d w r L K → (∀ q j, q ≠ 37 → q ≠ 38 → K q j = H q j) → (∀ y, K 37 y = if 0 ≤ y ∧ y < x + 1 then 1 else 0) → (∀ y u, 0 ≤ y → y < x → 0 ≤ u → u ≤ r → K 38 (65 * y + u) = 1) → (∀ u, 0 ≤ u → u < o → K 38 (65 * x + u) = 1) → zEnds 0 179 378 [(29, 35), (9, 0), (9, 0), (9, 0), (0, x), (0, o), (9, 0)] [] (117, L, K) Qr Qt := by
        intro m
        induction m with
        | zero =>
          intro o K o0 o1 k0 k1 k2 k3 k4
          refine w_179_378 ⟨fun _ => ?_, fun z => absurd (by show K 35 3 < o; rw [k0.2.2.2.1.2.2.1]; omega) z⟩
          rw [z32_id (x := x + 1) (by omega) (by omega)]
          refine ih (x + 1) K (by omega) (by omega) k0 k1 k2 (fun y u y0 y1 u0 u1 => ?_)
          by_cases c : y = x
          · rw [c]; exact k4 u u0 (by omega)
          · exact k3 y u y0 (by omega) u0 u1
        | succ m ihm =>
          intro o K o0 o1 k0 k1 k2 k3 k4
          refine w_179_378 ⟨fun z => absurd z (by show ¬ K 35 3 < o; rw [k0.2.2.2.1.2.2.1]; omega), fun _ => ⟨by show 86 < 117; decide, zEnds_md zmd118 (Nat.le_refl 117) (m_at (by omega) (by omega) ⟨⟨by show 0 ≤ 65 * x + o ∧ 65 * x + o < L 38; omega, Or.inr rfl⟩, ?_⟩)⟩⟩
          rw [z32_id (x := o + 1) (by omega) (by omega)]
          refine ihm (o + 1) _ (by omega) (by omega) (k0.upd (by omega)) (fun q j q1 q2 => by rw [zupd_ne q2]; exact k1 q j q1 q2) (fun y => by rw [zupd_ne (by decide)]; exact k2 y) (fun y u y0 y1 u0 u1 => ?_) (fun u u0 u1 => ?_)
          · rw [zupd_no (by omega)]; exact k3 y u y0 y1 u0 u1
          · by_cases c : u = o
            · rw [c, zupd_at]
            · rw [zupd_no (by omega)]; exact k4 u u0 (by omega)
      refine w_179_358 ⟨fun z => absurd z (by show ¬ G 35 1 ≤ x; rw [g0.2.2.2.1.1]; omega), fun _ => ⟨by show 84 < 117; decide, ⟨⟨x0, by show x < L 37; omega⟩, Or.inr rfl⟩, ?_⟩⟩
      refine inner (r + 1).toNat 0 _ (by omega) (by omega) (g0.upd (by omega)) (fun q j q1 q2 => by rw [zupd_ne q1]; exact g1 q j q1 q2) (fun y => ?_) (fun y u y0 y1 u0 u1 => by rw [zupd_ne (by decide)]; exact g3 y u y0 y1 u0 u1) (fun u u0 u1 => by omega)
      by_cases c : y = x
      · rw [c, zupd_at, if_pos (by omega)]
      · rw [zupd_no (fun u => c u.2)]
        show G 37 y = _
        rw [g2]
        by_cases c2 : 0 ≤ y ∧ y < x
        · rw [if_pos c2, if_pos (by omega)]
        · rw [if_neg c2, if_neg (by omega)]
  exact loop d.toNat 0 H (by omega) (by omega) h (fun _ _ _ _ => rfl) (fun y => by rw [if_neg (by omega)]; exact hz y) (fun y o y0 y1 => by omega)
/-- what the reference's places and tags are at the beginning -/
def mPt0 (d w r : Int) (G : zHp) : Prop := (∀ row p, 0 ≤ row → row < r → 0 ≤ p → p < gPo d w → G 41 (16 * row + p) = gDk d row p) ∧ (∀ row p, 0 ≤ row → row < r → 0 ≤ p → p < d → G 39 (65 * gDk d row p + row) = if p < gPo d w then p + 1 else 0) ∧ ∀ x, 0 ≤ x → x < d → G 39 (65 * x + r) = 0
theorem k_tags {H : zHp} (h : mS d w r L H) (hz : ∀ j, H 39 j = 0) (hQ : ∀ G, mS d w r L G → (∀ o j, o ≠ 39 → o ≠ 41 → G o j = H o j) → mPt0 d w r G → zEnds 0 179 506 [(29, 35), (9, 0), (9, 0), (9, 0), (0, 0), (9, 0), (9, 0)] [] (117, L, zupd G 45 0 2) Qr Qt) : zEnds 0 179 415 [(29, 35), (9, 0), (9, 0), (9, 0), (0, 0), (9, 0), (9, 0)] [] (117, L, H) Qr Qt := by
  have hk := h.1
  obtain ⟨p1, p2, p3, p4⟩ := gPo_rg hk
  obtain ⟨d1, d2, w1, w2, wd, r1, r2⟩ := hk
  have hk := h.1
  have l39 : L 39 = 1040 := h.2.1.2.2.2.1
  have l41 : L 41 = 1024 := h.2.1.2.2.2.2.2.1
  have l45 : L 45 = 1280 := h.2.2.1.1
  have dk := fun row pos => gDk_rg (row := row) (pos := pos) hk
  have loop : ∀ (n : Nat) (row : Int) (G : zHp), 0 ≤ row → row + n = r → mS d w r L G → (∀ o j, o ≠ 39 → o ≠ 41 → G o j = H o j) → (∀ y p, 0 ≤ y → y < row → 0 ≤ p → p < gPo d w → G 41 (16 * y + p) = gDk d y p) → (∀ y p, 0 ≤ y → y < r → 0 ≤ p → p < d → G 39 (65 * gDk d y p + y) = if y < row ∧ p < gPo d w then p + 1 else 0) → (∀ x, 0 ≤ x → x < d → G 39 (65 * x + r) = 0) → zEnds 0 179 415 [(29, 35), (9, 0), (9, 0), (9, 0), (0, row), (9, 0), (9, 0)] [] (117, L, G) Qr Qt := by
    intro n
    induction n with
    | zero =>
      intro row G w0 w1' g0 g1 g2 g3 g4
      have ew : row = r := by omega
      rw [ew] at g2 g3
      refine w_179_415 ⟨fun _ => ⟨by show 100 < 117; decide, by show (0 : Int) ≤ 0 ∧ 0 < L 45; omega, hQ G g0 g1 ⟨g2, fun y p y0 y1 q0 q1 => ?_, g4⟩⟩, fun z => absurd (by show G 35 3 ≤ row; rw [g0.2.2.2.1.2.2.1]; omega) z⟩
      rw [g3 y p y0 y1 q0 q1]
      by_cases c : p < gPo d w
      · rw [if_pos ⟨y1, c⟩, if_pos c]
      · rw [if_neg (fun u => c u.2), if_neg c]
    | succ n ih =>
      intro row G w0 w1' g0 g1 g2 g3 g4
      have inner : ∀ (m : Nat) (p : Int) (K : zHp), 0 ≤ p → p + m = gPo d w → mS d w r L K → (∀ o j, o ≠ 39 → o ≠ 41 → K o j = H o j) → (∀ y q, 0 ≤ y → y < row → 0 ≤ q → q < gPo d w → K 41 (16 * y + q) = gDk d y q) → (∀ q, 0 ≤ q → q < p → K 41 (16 * row + q) = gDk d row q) → (∀ y q, 0 ≤ y → y < r → 0 ≤ q → q < d → K 39 (65 * gDk d y q + y) = if (y < row ∧ q < gPo d w) ∨ (y = row ∧ q < p) then q + 1 else 0) → (∀ x, 0 ≤ x → x < d → K 39 (65 * x + r) = 0) → zEnds 0 179 427 [(29, 35), (9, 0), (9, 0), (9, 0), (0, row), (0, p), (9, 0)] [] (117, L, K) Qr Qt := by
        intro m
        induction m with
        | zero =>
          intro p K q0 q1 k0 k1 k2 k3 k4 k5
          have em : z32 (K 35 2 * K 35 4) = gPo d w := by
            rw [k0.2.2.2.1.2.1, k0.2.2.2.1.2.2.2.1]
            show z32 (gPo d w) = gPo d w
            exact z32_id (by omega) (by omega)
          refine w_179_427 ⟨fun _ => ?_, fun z => absurd (by show z32 (K 35 2 * K 35 4) ≤ p; omega) z⟩
          rw [z32_id (x := row + 1) (by omega) (by omega)]
          refine ih (row + 1) K (by omega) (by omega) k0 k1 (fun y q y0 y1 q0 q1 => ?_) (fun y q y0 y1 u0 u1 => ?_) k5
          · by_cases c : y = row
            · rw [c]; exact k3 q q0 (by omega)
            · exact k2 y q y0 (by omega) q0 q1
          · rw [k4 y q y0 y1 u0 u1]
            by_cases c : y < row + 1 ∧ q < gPo d w
            · rw [if_pos c, if_pos (by omega)]
            · rw [if_neg c, if_neg (by omega)]
        | succ m ihm =>
          intro p K q0 q1 k0 k1 k2 k3 k4 k5
          have em : z32 (K 35 2 * K 35 4) = gPo d w := by
            rw [k0.2.2.2.1.2.1, k0.2.2.2.1.2.2.2.1]
            show z32 (gPo d w) = gPo d w
            exact z32_id (by omega) (by omega)
          have hdk := dk row p
          refine w_179_427 ⟨fun z => absurd z (by show ¬ z32 (K 35 2 * K 35 4) ≤ p; omega), fun _ => ⟨by show 92 < 117; decide, zEnds_md zmd118 (Nat.le_refl 117) (m_diskOf k0 (by omega) (by omega) ?_)⟩⟩
          rw [z32_id (x := 16 * row) (by omega) (by omega), z32_id (x := 16 * row + p) (by omega) (by omega), z32_id (x := p + 1) (by omega) (by omega)]
          have k0' : mS d w r L (zupd K 41 (16 * row + p) (gDk d row p)) := k0.upd (by omega)
          refine ⟨by show 0 ≤ 16 * row + p ∧ 16 * row + p < L 41; omega, by show 88 < 117; decide, zEnds_md zmd118 (Nat.le_refl 117) (m_diskOf k0' (by omega) (by omega) (zEnds_md zmd118 (Nat.le_refl 117) (m_at (by omega) (by omega) ⟨by show 0 ≤ 65 * gDk d row p + row ∧ 65 * gDk d row p + row < L 39; omega, ?_⟩)))⟩
          refine ihm (p + 1) (zupd (zupd K 41 (16 * row + p) (gDk d row p)) 39 (65 * gDk d row p + row) (p + 1)) (by omega) (by omega) (k0'.upd (by omega)) (fun o j o1 o2 => by rw [zupd_ne o1, zupd_ne o2]; exact k1 o j o1 o2) (fun y q y0 y1 u0 u1 => ?_) (fun q u0 u1 => ?_) (fun y q y0 y1 u0 u1 => ?_) (fun x x0 x1 => ?_)
          · rw [zupd_ne (by decide), zupd_no (by omega)]; exact k2 y q y0 y1 u0 u1
          · rw [zupd_ne (by decide)]
            by_cases c : q = p
            · rw [c, zupd_at]
            · rw [zupd_no (by omega)]; exact k3 q u0 (by omega)
          · have hd2 := dk y q
            by_cases c : 65 * gDk d y q + y = 65 * gDk d row p + row
            · have ey : y = row := by omega
              rw [ey] at c ⊢
              have eq := gDk_inj hk (row := row) (a := q) (b := p) (by omega) (by omega) (by omega)
              rw [eq, zupd_at, if_pos (by omega)]
            · rw [zupd_no (fun u => c u.2), zupd_ne (by decide), k4 y q y0 y1 u0 u1]
              by_cases c2 : (y < row ∧ q < gPo d w) ∨ (y = row ∧ q < p)
              · rw [if_pos c2, if_pos (by omega)]
              · rw [if_neg c2, if_neg (fun u => by
                  rcases u with u | u
                  · exact c2 (Or.inl u)
                  · by_cases c3 : q = p
                    · rw [u.1, c3] at c; exact c rfl
                    · exact c2 (Or.inr ⟨u.1, by omega⟩))]
          · rw [zupd_no (by omega), zupd_ne (by decide)]; exact k5 x x0 x1
      refine w_179_415 ⟨fun z => absurd z (by show ¬ G 35 3 ≤ row; rw [g0.2.2.2.1.2.2.1]; omega), fun _ => ?_⟩
      refine inner (gPo d w).toNat 0 G (by omega) (by omega) g0 g1 g2 (fun q q0 q1 => by omega) (fun y q y0 y1 u0 u1 => ?_) g4
      rw [g3 y q y0 y1 u0 u1]
      by_cases c : y < row ∧ q < gPo d w
      · rw [if_pos c, if_pos (Or.inl c)]
      · rw [if_neg c, if_neg (by omega)]
  exact loop r.toNat 0 H (by omega) (by omega) h (fun _ _ _ _ => rfl) (fun y p y0 y1 => by omega) (fun y p y0 y1 _ _ => by rw [if_neg (by omega)]; exact hz _) (fun x _ _ => hz _)
end MNEW
