/-! look. -/
section LOOK3
variable {d w r : Int} {t : Nat} {L : Int → Int} {H M X : zHp} {Qr Qt : Int → zS → Prop} {C : Int → Int → Int}
theorem rAll.rk (h : rAll d w r t L H M) : rK d r H M ∧ rL H M := by
  rcases h.2 with ⟨C, a⟩ | ⟨C, O, a⟩
  · exact ⟨a.1.2.1, a.1.2.2.1⟩
  · exact ⟨a.1.2.2.1, a.2.1⟩
theorem r_rows {P : Int → Prop} {Q : Int → Int → Prop} (hk : gOK d w r) (h : ∀ row p, 0 ≤ row → row < r → 0 ≤ p → p < gPo d w → (P (row * gPo d w + p) ↔ Q row p)) (h0 : ∀ row p, 0 ≤ row → row < r → gPo d w ≤ p → p < d → ¬ Q row p) : gCnt P 0 (r * gPo d w).toNat = gSum (fun row => gCnt (Q row) 0 d.toNat) 0 r.toNat := by
  have po := gPo_rg hk
  have w3 := hk.2.2.1
  have r1 := hk.2.2.2.2.2.1
  have e : (r * gPo d w).toNat = r.toNat * (gPo d w).toNat := Int.toNat_mul (by omega) (by omega)
  have q := gCnt_rows (P := P) (p := (gPo d w).toNat) r.toNat 0
  rw [Int.zero_mul] at q
  rw [e, q]
  refine gSum_congr _ _ (fun row a b => ?_)
  have p0 : (((gPo d w).toNat : Nat) : Int) = gPo d w := Int.toNat_of_nonneg (by omega)
  rw [show d.toNat = (gPo d w).toNat + (d - gPo d w).toNat by omega, gCnt_add, gCnt_none (d - gPo d w).toNat _ (fun p x y => h0 row p a (by omega) (by omega) (by omega)), Int.add_zero]
  refine gCnt_congr _ _ (fun p x y => ?_)
  rw [p0]
  exact h row p a (by omega) x (by omega)
theorem k_looks (h : rAll d w r t L H M) : (gCnt (fun s => H 13 s = -1) 0 (r * gPo d w).toNat = gSum (fun row => gCnt (mCP d w M 2 row) 0 d.toNat) 0 r.toNat) ∧ (gCnt (gSpoilt d w r H) 0 (r * gPo d w).toNat = gSum (fun row => gCnt (mCP d w M 3 row) 0 d.toNat) 0 r.toNat) ∧ (gSum (fun row => gCnt (gFree d w r H row) (gPo d w) (d - gPo d w).toNat) 0 r.toNat = gSum (fun row => gCnt (mCP d w M 4 row) 0 d.toNat) 0 r.toNat) := by
  have hk := h.1.1.1.1.1
  have po := gPo_rg hk
  have w3 := hk.2.2.1
  have r1 := hk.2.2.2.2.2.1
  have pl := h.pl
  have hK := h.rk.1
  refine ⟨r_rows hk (fun row p a b x y => ?_) (fun row p a b x y u => ?_), r_rows hk (fun row p a b x y => ?_) (fun row p a b x y u => ?_), gSum_congr _ _ (fun row a b => ?_)⟩
  · have sr := gSpot_rg hk ⟨a, b⟩ ⟨x, y⟩
    have rg := gRow_of (row := row) hk ⟨x, y⟩
    have e := pl _ sr.1 sr.2
    unfold mPs at e
    rw [rg.1, rg.2] at e
    have m := h.mok row p a b x y
    show H 13 _ = -1 ↔ _
    rw [e]
    constructor
    · intro u
      exact Or.inl ⟨rfl, y, by omega⟩
    · rintro (⟨-, -, u⟩ | u | u)
      · omega
      · exact absurd u.1 (by decide)
      · exact absurd u.1 (by decide)
  · rcases u with u | u | u
    · omega
    · omega
    · exact absurd u.1 (by decide)
  · have sr := gSpot_rg hk ⟨a, b⟩ ⟨x, y⟩
    have rg := gRow_of (row := row) hk ⟨x, y⟩
    have e := r_spt hk h.1.1.1.2 hK pl sr
    unfold mSps at e
    rw [rg.1, rg.2] at e
    rw [e]
    constructor
    · intro u
      exact Or.inr (Or.inl ⟨rfl, y, u⟩)
    · rintro (u | ⟨-, -, u⟩ | u)
      · exact absurd u.1 (by decide)
      · exact u
      · exact absurd u.1 (by decide)
  · rcases u with u | u | u
    · exact absurd u.1 (by decide)
    · omega
    · exact absurd u.1 (by decide)
  · rw [show d.toNat = (gPo d w).toNat + (d - gPo d w).toNat by omega, gCnt_add, gCnt_none (gPo d w).toNat 0 (fun p x y u => by
      rcases u with u | u | u
      · exact absurd u.1 (by decide)
      · exact absurd u.1 (by decide)
      · omega), Int.zero_add, show (0 : Int) + (((gPo d w).toNat : Nat) : Int) = gPo d w by omega]
    refine gCnt_congr _ _ (fun p x y => ?_)
    rw [r_free hk hK pl (by omega) (by omega)]
    constructor
    · intro u
      exact Or.inr (Or.inr ⟨rfl, x, u⟩)
    · rintro (u | u | u)
      · exact absurd u.1 (by decide)
      · exact absurd u.1 (by decide)
      · exact u.2.2
theorem k_free (hk : gOK d w r) (h : rOn d w r C H M) : gCnt (fun b => ¬ mT (zB8 H 19) b) 59 (r * gGr d w * (w - 1) - 59).toNat = gCnt (fun b => M 46 b = 0) 0 (r * gGr d w * (w - 1)).toNat := by
  have hB := gBl_le hk
  have hB2 := gBl_ge hk
  rw [show (r * gGr d w * (w - 1)).toNat = 59 + (r * gGr d w * (w - 1) - 59).toNat by omega, gCnt_add, gCnt_none 59 0 (fun b x y u => by
    have u : M 46 b = 0 := u
    have v : M 46 b = 100 := h.g.2.2.1.1 b x (by omega)
    omega), Int.zero_add]
  refine gCnt_congr _ _ (fun b x y => ?_)
  have x : 59 ≤ b := x
  have y : b < r * gGr d w * (w - 1) := by omega
  rw [h.e.2.1 b (by omega) (by omega)]
  have o := h.ow (b := b) (by omega)
  show ¬ (b < _ ∧ 0 < M 46 b) ↔ M 46 b = 0
  omega
theorem r_seq (hk : gOK d w r) (h : rOn d w r C H M) : z32 (zlor (zor (zor (M 43 0) (zshl (M 43 1) 8)) (zshl (M 43 2) 16)) (zlshl (M 43 3) 24)) = H 29 6 := by
  have hB2 := gBl_ge hk
  have e : ∀ k, 0 ≤ k → k < 4 → 0 ≤ M 43 k ∧ M 43 k < 256 := fun k k0 k1 => by
    have q := h.2.1 0 k (by decide) (by omega) k0 (by omega) (fun _ => by omega)
    rw [show 64 * 0 + k = k by omega] at q
    rw [← q]
    exact by8_rg _ _
  rw [sq_eq (e 0 (by decide) (by decide)) (e 1 (by decide) (by decide)) (e 2 (by decide) (by decide)) (e 3 (by decide) (by decide)), h.2.2.1.2.2.2.2.1.2]
  rfl
theorem k_lookC (h : rAll d w r t L H M) : zEnds 80 166 0 [(20, 0), (0, 0)] [] (t, L, H) (fun v S1 => v = H 0 11 ∧ ∃ H1, S1 = (t, L, H1) ∧ ∀ q i, q ≠ 21 → H1 q i = H q i) (fun _ _ => False) ∧ zEnds 80 166 0 [(20, 0), (0, 1)] [] (t, L, H) (fun v S1 => v = H 3 10 ∧ ∃ H1, S1 = (t, L, H1) ∧ ∀ q i, q ≠ 21 → H1 q i = H q i) (fun _ _ => False) ∧ zEnds 80 166 0 [(20, 0), (0, 2)] [] (t, L, H) (fun v S1 => v = gCnt (fun s => H 13 s = -1) 0 (r * gPo d w).toNat ∧ ∃ H1, S1 = (t, L, H1) ∧ ∀ q i, q ≠ 21 → H1 q i = H q i) (fun _ _ => False) ∧ zEnds 80 166 0 [(20, 0), (0, 3)] [] (t, L, H) (fun v S1 => v = gCnt (gSpoilt d w r H) 0 (r * gPo d w).toNat ∧ ∃ H1, S1 = (t, L, H1) ∧ ∀ q i, q ≠ 21 → H1 q i = H q i) (fun _ _ => False) ∧ zEnds 80 166 0 [(20, 0), (0, 4)] [] (t, L, H) (fun v S1 => v = gSum (fun row => gCnt (gFree d w r H row) (gPo d w) (d - gPo d w).toNat) 0 r.toNat ∧ ∃ H1, S1 = (t, L, H1) ∧ ∀ q i, q ≠ 21 → H1 q i = H q i) (fun _ _ => False) ∧ zEnds 80 166 0 [(20, 0), (0, 5)] [] (t, L, H) (fun v S1 => v = r * gGr d w * (w - 1) ∧ ∃ H1, S1 = (t, L, H1) ∧ ∀ q i, q ≠ 21 → H1 q i = H q i) (fun _ _ => False) ∧ zEnds 80 166 0 [(20, 0), (0, 6)] [] (t, L, H) (fun v S1 => v = 0 ∧ ∃ H1, S1 = (t, L, H1) ∧ ∀ q i, q ≠ 21 → H1 q i = H q i) (fun _ _ => False) ∧ zEnds 80 166 0 [(20, 0), (0, 7)] [] (t, L, H) (fun v S1 => v = r * gGr d w ∧ ∃ H1, S1 = (t, L, H1) ∧ ∀ q i, q ≠ 21 → H1 q i = H q i) (fun _ _ => False) ∧ zEnds 80 166 0 [(20, 0), (0, 8)] [] (t, L, H) (fun v S1 => v = H 16 4 ∧ ∃ H1, S1 = (t, L, H1) ∧ ∀ q i, q ≠ 21 → H1 q i = H q i) (fun _ _ => False) ∧ zEnds 80 166 0 [(20, 0), (0, 9)] [] (t, L, H) (fun v S1 => v = w ∧ ∃ H1, S1 = (t, L, H1) ∧ ∀ q i, q ≠ 21 → H1 q i = H q i) (fun _ _ => False) ∧ zEnds 80 166 0 [(20, 0), (0, 10)] [] (t, L, H) (fun v S1 => v = d ∧ ∃ H1, S1 = (t, L, H1) ∧ ∀ q i, q ≠ 21 → H1 q i = H q i) (fun _ _ => False) ∧ zEnds 80 166 0 [(20, 0), (0, 11)] [] (t, L, H) (fun v S1 => v = gCnt (fun x => H 4 x ≠ 0) 0 d.toNat ∧ ∃ H1, S1 = (t, L, H1) ∧ ∀ q i, q ≠ 21 → H1 q i = H q i) (fun _ _ => False) ∧ zEnds 80 166 0 [(20, 0), (0, 12)] [] (t, L, H) (fun v S1 => v = H 0 10 ∧ ∃ H1, S1 = (t, L, H1) ∧ ∀ q i, q ≠ 21 → H1 q i = H q i) (fun _ _ => False) := by
  have n0 : H 1 0 = d := h.1.1.1.1.2.2.1.1.1
  have n1 : H 1 1 = w := h.1.1.1.1.2.2.1.1.2.1
  have n5 : H 1 5 = r * gGr d w := h.1.1.1.1.2.2.1.1.2.2.2.2.2.1
  have n7 : H 1 7 = r * gGr d w * (w - 1) := h.1.1.1.1.2.2.1.1.2.2.2.2.2.2.2.1
  have one : ¬ H 0 11 = 0 → 1 = H 0 11 := fun u => by
    rcases h.on with v | v
    · exact v.1.symm
    · exact absurd v.1 u
  refine ⟨?_, ?_, ?_, ?_, ?_, ?_, ?_, ?_, ?_, ?_, ?_, ?_, ?_⟩
  · exact j_166 ⟨fun u => absurd u (by decide), fun _ => ⟨fun _ => ⟨fun u => absurd u (by decide), fun _ => j_167 (⟨fun _ => ⟨fun u => ⟨(show (0 : Int) = H 0 11 from u.symm), H, rfl, fun _ _ _ => rfl⟩, fun u => ⟨one u, H, rfl, fun _ _ _ => rfl⟩⟩, fun u => absurd rfl u⟩)⟩, fun u => absurd (by decide) u⟩⟩
  · exact j_166 ⟨fun u => absurd u (by decide), fun _ => ⟨fun _ => ⟨fun u => absurd u (by decide), fun _ => j_167 (⟨fun u => absurd u (by decide), fun _ => ⟨fun _ => v_20 ⟨rfl, H, rfl, fun _ _ _ => rfl⟩, fun u => absurd rfl u⟩⟩)⟩, fun u => absurd (by decide) u⟩⟩
  · exact j_166 ⟨fun u => absurd u (by decide), fun _ => ⟨fun _ => ⟨fun u => absurd u (by decide), fun _ => j_167 (⟨fun u => absurd u (by decide), fun _ => ⟨fun u => absurd u (by decide), fun _ => ⟨fun _ => g_countLost h.1.1.1.1 ⟨rfl, H, rfl, fun _ _ _ => rfl⟩, fun u => absurd rfl u⟩⟩⟩)⟩, fun u => absurd (by decide) u⟩⟩
  · exact j_166 ⟨fun u => absurd u (by decide), fun _ => ⟨fun _ => ⟨fun u => absurd u (by decide), fun _ => j_167 (⟨fun u => absurd u (by decide), fun _ => ⟨fun u => absurd u (by decide), fun _ => ⟨fun u => absurd u (by decide), fun _ => ⟨fun _ => g_countSpoilt h.1.1.1.1 h.1.1.1.2 ⟨rfl, H, rfl, fun _ _ _ => rfl⟩, fun u => absurd rfl u⟩⟩⟩⟩)⟩, fun u => absurd (by decide) u⟩⟩
  · exact j_166 ⟨fun u => absurd u (by decide), fun _ => ⟨fun _ => ⟨fun u => absurd u (by decide), fun _ => j_167 (⟨fun u => absurd u (by decide), fun _ => ⟨fun u => absurd u (by decide), fun _ => ⟨fun u => absurd u (by decide), fun _ => ⟨fun u => absurd u (by decide), fun _ => ⟨fun _ => g_countFree h.1.1.1.1 ⟨rfl, H, rfl, fun _ _ _ => rfl⟩, fun u => absurd rfl u⟩⟩⟩⟩⟩)⟩, fun u => absurd (by decide) u⟩⟩
  · exact j_166 ⟨fun u => absurd u (by decide), fun _ => ⟨fun _ => ⟨fun u => absurd u (by decide), fun _ => j_167 (⟨fun u => absurd u (by decide), fun _ => ⟨fun u => absurd u (by decide), fun _ => ⟨fun u => absurd u (by decide), fun _ => ⟨fun u => absurd u (by decide), fun _ => ⟨fun u => absurd u (by decide), fun _ => ⟨fun _ => ⟨n7, H, rfl, fun _ _ _ => rfl⟩, fun u => absurd rfl u⟩⟩⟩⟩⟩⟩)⟩, fun u => absurd (by decide) u⟩⟩
  · exact j_166 ⟨fun u => absurd u (by decide), fun _ => ⟨fun _ => ⟨fun u => absurd u (by decide), fun _ => j_167 (⟨fun u => absurd u (by decide), fun _ => ⟨fun u => absurd u (by decide), fun _ => ⟨fun u => absurd u (by decide), fun _ => ⟨fun u => absurd u (by decide), fun _ => ⟨fun u => absurd u (by decide), fun _ => ⟨fun u => absurd u (by decide), fun _ => ⟨fun _ => v_63 ⟨h.1.2.2.1.2.2, H, rfl, fun _ _ _ => rfl⟩, fun u => absurd rfl u⟩⟩⟩⟩⟩⟩⟩)⟩, fun u => absurd (by decide) u⟩⟩
  · exact j_166 ⟨fun u => absurd u (by decide), fun _ => ⟨fun _ => ⟨fun u => absurd u (by decide), fun _ => j_167 (⟨fun u => absurd u (by decide), fun _ => ⟨fun u => absurd u (by decide), fun _ => ⟨fun u => absurd u (by decide), fun _ => ⟨fun u => absurd u (by decide), fun _ => ⟨fun u => absurd u (by decide), fun _ => ⟨fun u => absurd u (by decide), fun _ => ⟨fun u => absurd u (by decide), fun _ => ⟨fun _ => ⟨n5, H, rfl, fun _ _ _ => rfl⟩, fun u => absurd rfl u⟩⟩⟩⟩⟩⟩⟩⟩)⟩, fun u => absurd (by decide) u⟩⟩
  · exact j_166 ⟨fun u => absurd u (by decide), fun _ => ⟨fun _ => ⟨fun u => absurd u (by decide), fun _ => j_167 (⟨fun u => absurd u (by decide), fun _ => ⟨fun u => absurd u (by decide), fun _ => ⟨fun u => absurd u (by decide), fun _ => ⟨fun u => absurd u (by decide), fun _ => ⟨fun u => absurd u (by decide), fun _ => ⟨fun u => absurd u (by decide), fun _ => ⟨fun u => absurd u (by decide), fun _ => ⟨fun u => absurd u (by decide), fun _ => ⟨fun _ => v_62 ⟨rfl, H, rfl, fun _ _ _ => rfl⟩, fun u => absurd rfl u⟩⟩⟩⟩⟩⟩⟩⟩⟩)⟩, fun u => absurd (by decide) u⟩⟩
  · exact j_166 ⟨fun u => absurd u (by decide), fun _ => ⟨fun _ => ⟨fun u => absurd u (by decide), fun _ => j_167 (⟨fun u => absurd u (by decide), fun _ => ⟨fun u => absurd u (by decide), fun _ => ⟨fun u => absurd u (by decide), fun _ => ⟨fun u => absurd u (by decide), fun _ => ⟨fun u => absurd u (by decide), fun _ => ⟨fun u => absurd u (by decide), fun _ => ⟨fun u => absurd u (by decide), fun _ => ⟨fun u => absurd u (by decide), fun _ => ⟨fun u => absurd u (by decide), fun _ => ⟨fun _ => ⟨n1, H, rfl, fun _ _ _ => rfl⟩, fun u => absurd rfl u⟩⟩⟩⟩⟩⟩⟩⟩⟩⟩)⟩, fun u => absurd (by decide) u⟩⟩
  · exact j_166 ⟨fun u => absurd u (by decide), fun _ => ⟨fun _ => ⟨fun u => absurd u (by decide), fun _ => j_167 (⟨fun u => absurd u (by decide), fun _ => ⟨fun u => absurd u (by decide), fun _ => ⟨fun u => absurd u (by decide), fun _ => ⟨fun u => absurd u (by decide), fun _ => ⟨fun u => absurd u (by decide), fun _ => ⟨fun u => absurd u (by decide), fun _ => ⟨fun u => absurd u (by decide), fun _ => ⟨fun u => absurd u (by decide), fun _ => ⟨fun u => absurd u (by decide), fun _ => ⟨fun u => absurd u (by decide), fun _ => ⟨fun _ => ⟨n0, H, rfl, fun _ _ _ => rfl⟩, fun u => absurd rfl u⟩⟩⟩⟩⟩⟩⟩⟩⟩⟩⟩)⟩, fun u => absurd (by decide) u⟩⟩
  · exact j_166 ⟨fun u => absurd u (by decide), fun _ => ⟨fun _ => ⟨fun u => absurd u (by decide), fun _ => j_167 (⟨fun u => absurd u (by decide), fun _ => ⟨fun u => absurd u (by decide), fun _ => ⟨fun u => absurd u (by decide), fun _ => ⟨fun u => absurd u (by decide), fun _ => ⟨fun u => absurd u (by decide), fun _ => ⟨fun u => absurd u (by decide), fun _ => ⟨fun u => absurd u (by decide), fun _ => ⟨fun u => absurd u (by decide), fun _ => ⟨fun u => absurd u (by decide), fun _ => ⟨fun u => absurd u (by decide), fun _ => ⟨fun u => absurd u (by decide), fun _ => ⟨fun _ => g_countLive h.1.1.1.1 ⟨rfl, H, rfl, fun _ _ _ => rfl⟩, fun u => absurd rfl u⟩⟩⟩⟩⟩⟩⟩⟩⟩⟩⟩⟩)⟩, fun u => absurd (by decide) u⟩⟩
  · exact j_166 ⟨fun u => absurd u (by decide), fun _ => ⟨fun _ => ⟨fun u => absurd u (by decide), fun _ => j_167 (⟨fun u => absurd u (by decide), fun _ => ⟨fun u => absurd u (by decide), fun _ => ⟨fun u => absurd u (by decide), fun _ => ⟨fun u => absurd u (by decide), fun _ => ⟨fun u => absurd u (by decide), fun _ => ⟨fun u => absurd u (by decide), fun _ => ⟨fun u => absurd u (by decide), fun _ => ⟨fun u => absurd u (by decide), fun _ => ⟨fun u => absurd u (by decide), fun _ => ⟨fun u => absurd u (by decide), fun _ => ⟨fun u => absurd u (by decide), fun _ => ⟨fun u => absurd u (by decide), fun _ => ⟨rfl, H, rfl, fun _ _ _ => rfl⟩⟩⟩⟩⟩⟩⟩⟩⟩⟩⟩⟩⟩)⟩, fun u => absurd (by decide) u⟩⟩
theorem k_lookC2 (h : rAll d w r t L H M) (hn : rOn d w r C H M) : zEnds 80 166 0 [(20, 0), (0, 13)] [] (t, L, H) (fun v S1 => v = gCnt (fun b => ¬ mT (zB8 H 19) b) 59 (r * gGr d w * (w - 1) - 59).toNat ∧ ∃ H1, S1 = (t, L, H1) ∧ ∀ q i, q ≠ 21 → H1 q i = H q i) (fun _ _ => False) ∧ zEnds 80 166 0 [(20, 0), (0, 14)] [] (t, L, H) (fun v S1 => v = gCnt (fun i => M 45 (20 * i) = 0) 0 64 ∧ ∃ H1, S1 = (t, L, H1) ∧ ∀ q i, q ≠ 21 → H1 q i = H q i) (fun _ _ => False) ∧ zEnds 80 166 0 [(20, 0), (0, 15)] [] (t, L, H) (fun v S1 => v = gCnt (iCh (zB8 H 19) H) 25 (r * gGr d w * (w - 1) - 25).toNat ∧ ∃ H1, S1 = (t, L, H1) ∧ ∀ q i, q ≠ 21 → H1 q i = H q i) (fun _ _ => False) ∧ zEnds 80 166 0 [(20, 0), (0, 16)] [] (t, L, H) (fun v S1 => v = H 0 12 ∧ ∃ H1, S1 = (t, L, H1) ∧ ∀ q i, q ≠ 21 → H1 q i = H q i) (fun _ _ => False) ∧ zEnds 80 166 0 [(20, 0), (0, 17)] [] (t, L, H) (fun v S1 => v = H 0 13 ∧ ∃ H1, S1 = (t, L, H1) ∧ ∀ q i, q ≠ 21 → H1 q i = H q i) (fun _ _ => False) ∧ zEnds 80 166 0 [(20, 0), (0, 18)] [] (t, L, H) (fun v S1 => v = H 29 6 ∧ ∃ H1, S1 = (t, L, H1) ∧ ∀ q i, q ≠ 21 → H1 q i = H q i) (fun _ _ => False) ∧ zEnds 80 166 0 [(20, 0), (0, 19)] [] (t, L, H) (fun v S1 => v = 0 ∧ ∃ H1, S1 = (t, L, H1) ∧ ∀ q i, q ≠ 21 → H1 q i = H q i) (fun _ _ => False) := by
  have on : ¬ H 0 11 = 0 := by rw [hn.2.2.2.2]; decide
  refine ⟨?_, ?_, ?_, ?_, ?_, ?_, ?_⟩
  · exact j_166 ⟨fun u => absurd u (by decide), fun _ => ⟨fun _ => ⟨fun _ => ⟨fun u => absurd u on, fun _ => j_168 (⟨fun _ => i_countFree h.1.s ⟨rfl, H, rfl, fun _ _ _ => rfl⟩, fun u => absurd rfl u⟩)⟩, fun u => absurd (by decide) u⟩, fun u => absurd (by decide) u⟩⟩
  · exact j_166 ⟨fun u => absurd u (by decide), fun _ => ⟨fun _ => ⟨fun _ => ⟨fun u => absurd u on, fun _ => j_168 (⟨fun u => absurd u (by decide), fun _ => ⟨fun _ => n_countFree h.1.s hn.e.1 ⟨rfl, H, rfl, fun _ _ _ => rfl⟩, fun u => absurd rfl u⟩⟩)⟩, fun u => absurd (by decide) u⟩, fun u => absurd (by decide) u⟩⟩
  · exact j_166 ⟨fun u => absurd u (by decide), fun _ => ⟨fun _ => ⟨fun _ => ⟨fun u => absurd u on, fun _ => j_168 (⟨fun u => absurd u (by decide), fun _ => ⟨fun u => absurd u (by decide), fun _ => ⟨fun _ => i_countChanged h.1.s ⟨rfl, H, rfl, fun _ _ _ => rfl⟩, fun u => absurd rfl u⟩⟩⟩)⟩, fun u => absurd (by decide) u⟩, fun u => absurd (by decide) u⟩⟩
  · exact j_166 ⟨fun u => absurd u (by decide), fun _ => ⟨fun _ => ⟨fun _ => ⟨fun u => absurd u on, fun _ => j_168 (⟨fun u => absurd u (by decide), fun _ => ⟨fun u => absurd u (by decide), fun _ => ⟨fun u => absurd u (by decide), fun _ => ⟨fun _ => ⟨rfl, H, rfl, fun _ _ _ => rfl⟩, fun u => absurd rfl u⟩⟩⟩⟩)⟩, fun u => absurd (by decide) u⟩, fun u => absurd (by decide) u⟩⟩
  · exact j_166 ⟨fun u => absurd u (by decide), fun _ => ⟨fun _ => ⟨fun _ => ⟨fun u => absurd u on, fun _ => j_168 (⟨fun u => absurd u (by decide), fun _ => ⟨fun u => absurd u (by decide), fun _ => ⟨fun u => absurd u (by decide), fun _ => ⟨fun u => absurd u (by decide), fun _ => ⟨fun _ => ⟨rfl, H, rfl, fun _ _ _ => rfl⟩, fun u => absurd rfl u⟩⟩⟩⟩⟩)⟩, fun u => absurd (by decide) u⟩, fun u => absurd (by decide) u⟩⟩
  · exact j_166 ⟨fun u => absurd u (by decide), fun _ => ⟨fun _ => ⟨fun _ => ⟨fun u => absurd u on, fun _ => j_168 (⟨fun u => absurd u (by decide), fun _ => ⟨fun u => absurd u (by decide), fun _ => ⟨fun u => absurd u (by decide), fun _ => ⟨fun u => absurd u (by decide), fun _ => ⟨fun u => absurd u (by decide), fun _ => ⟨fun _ => v_138 ⟨rfl, H, rfl, fun _ _ _ => rfl⟩, fun u => absurd rfl u⟩⟩⟩⟩⟩⟩)⟩, fun u => absurd (by decide) u⟩, fun u => absurd (by decide) u⟩⟩
  · exact j_166 ⟨fun u => absurd u (by decide), fun _ => ⟨fun _ => ⟨fun _ => ⟨fun u => absurd u on, fun _ => j_168 (⟨fun u => absurd u (by decide), fun _ => ⟨fun u => absurd u (by decide), fun _ => ⟨fun u => absurd u (by decide), fun _ => ⟨fun u => absurd u (by decide), fun _ => ⟨fun u => absurd u (by decide), fun _ => ⟨fun u => absurd u (by decide), fun _ => k_strayed h hn (fun K e => ⟨rfl, K, rfl, e⟩)⟩⟩⟩⟩⟩⟩)⟩, fun u => absurd (by decide) u⟩, fun u => absurd (by decide) u⟩⟩
theorem k_lookM (h : rAll d w r t L H M) : zEnds 118 263 0 [(29, 35), (0, 0), (9, 0), (9, 0)] [] (t, L, M) (fun v S1 => v = H 0 11 ∧ S1 = (t, L, zupd M 35 0 0)) (fun _ _ => False) ∧ zEnds 118 263 0 [(29, 35), (0, 1), (9, 0), (9, 0)] [] (t, L, M) (fun v S1 => v = H 3 10 ∧ S1 = (t, L, zupd M 35 0 0)) (fun _ _ => False) ∧ zEnds 118 263 0 [(29, 35), (0, 2), (9, 0), (9, 0)] [] (t, L, M) (fun v S1 => v = gCnt (fun s => H 13 s = -1) 0 (r * gPo d w).toNat ∧ S1 = (t, L, zupd M 35 0 0)) (fun _ _ => False) ∧ zEnds 118 263 0 [(29, 35), (0, 3), (9, 0), (9, 0)] [] (t, L, M) (fun v S1 => v = gCnt (gSpoilt d w r H) 0 (r * gPo d w).toNat ∧ S1 = (t, L, zupd M 35 0 0)) (fun _ _ => False) ∧ zEnds 118 263 0 [(29, 35), (0, 4), (9, 0), (9, 0)] [] (t, L, M) (fun v S1 => v = gSum (fun row => gCnt (gFree d w r H row) (gPo d w) (d - gPo d w).toNat) 0 r.toNat ∧ S1 = (t, L, zupd M 35 0 0)) (fun _ _ => False) ∧ zEnds 118 263 0 [(29, 35), (0, 5), (9, 0), (9, 0)] [] (t, L, M) (fun v S1 => v = r * gGr d w * (w - 1) ∧ S1 = (t, L, zupd M 35 0 0)) (fun _ _ => False) ∧ zEnds 118 263 0 [(29, 35), (0, 6), (9, 0), (9, 0)] [] (t, L, M) (fun v S1 => v = 0 ∧ S1 = (t, L, zupd M 35 0 0)) (fun _ _ => False) ∧ zEnds 118 263 0 [(29, 35), (0, 7), (9, 0), (9, 0)] [] (t, L, M) (fun v S1 => v = r * gGr d w ∧ S1 = (t, L, zupd M 35 0 0)) (fun _ _ => False) ∧ zEnds 118 263 0 [(29, 35), (0, 8), (9, 0), (9, 0)] [] (t, L, M) (fun v S1 => v = H 16 4 ∧ S1 = (t, L, zupd M 35 0 0)) (fun _ _ => False) ∧ zEnds 118 263 0 [(29, 35), (0, 9), (9, 0), (9, 0)] [] (t, L, M) (fun v S1 => v = w ∧ S1 = (t, L, zupd M 35 0 0)) (fun _ _ => False) ∧ zEnds 118 263 0 [(29, 35), (0, 10), (9, 0), (9, 0)] [] (t, L, M) (fun v S1 => v = d ∧ S1 = (t, L, zupd M 35 0 0)) (fun _ _ => False) ∧ zEnds 118 263 0 [(29, 35), (0, 11), (9, 0), (9, 0)] [] (t, L, M) (fun v S1 => v = gCnt (fun x => H 4 x ≠ 0) 0 d.toNat ∧ S1 = (t, L, zupd M 35 0 0)) (fun _ _ => False) ∧ zEnds 118 263 0 [(29, 35), (0, 12), (9, 0), (9, 0)] [] (t, L, M) (fun v S1 => v = H 0 10 ∧ S1 = (t, L, zupd M 35 0 0)) (fun _ _ => False) := by
  have h1 : rAll d w r t L H (zupd M 35 0 0) := h.up
  have hk := h.1.1.1.1.1
  have po := gPo_rg hk
  have r1 := hk.2.2.2.2.2.1
  have hd := hk.1
  have r2 := hk.2.2.2.2.2.2
  have g5 : r * gGr d w ≤ 64 * 5 := Int.mul_le_mul r2 po.2.1 (by omega) (by decide)
  have g0 : 0 ≤ r * gGr d w := Int.mul_nonneg (by omega) (by omega)
  have mul7 : z32 (zupd M 35 0 0 35 3 * zupd M 35 0 0 35 4) = r * gGr d w := by
    rw [h1.1.1.2.1.2.2.2.1.2.2.1, h1.1.1.2.1.2.2.2.1.2.2.2.1]
    exact z32_id (by omega) (by omega)
  have on0 : zupd M 35 0 0 35 12 = 0 → 0 = H 0 11 := fun u => by
    rcases h1.on with v | v
    · omega
    · exact v.1.symm
  have on1 : ¬ zupd M 35 0 0 35 12 = 0 → 1 = H 0 11 := fun u => by
    rcases h1.on with v | v
    · exact v.1.symm
    · exact absurd v.2 u
  have cnt := k_looks h1
  refine ⟨?_, ?_, ?_, ?_, ?_, ?_, ?_, ?_, ?_, ?_, ?_, ?_, ?_⟩
  · exact j_263 ⟨fun u => absurd u (by decide), fun _ => ⟨fun _ => j_263_16 (m_f0 ⟨fun _ => ⟨fun _ => ⟨fun _ => ⟨fun u => ⟨on0 u, rfl⟩, fun u => ⟨on1 u, rfl⟩⟩, fun u => absurd rfl u⟩, fun u => absurd (by decide) u⟩, fun u => absurd rfl u⟩), fun u => absurd (by decide) u⟩⟩
  · exact j_263 ⟨fun u => absurd u (by decide), fun _ => ⟨fun _ => j_263_16 (m_f0 ⟨fun _ => ⟨fun _ => ⟨fun u => absurd u (by decide), fun _ => ⟨fun _ => ⟨h1.rk.2.2.2.symm, rfl⟩, fun u => absurd rfl u⟩⟩, fun u => absurd (by decide) u⟩, fun u => absurd rfl u⟩), fun u => absurd (by decide) u⟩⟩
  · exact j_263 ⟨fun u => absurd u (by decide), fun _ => ⟨fun _ => j_263_16 (m_f0 ⟨fun _ => ⟨fun _ => ⟨fun u => absurd u (by decide), fun _ => ⟨fun u => absurd u (by decide), fun _ => ⟨fun _ => m_count h1.1.1.2.1 h1.mok ⟨cnt.1.symm, rfl⟩, fun u => absurd rfl u⟩⟩⟩, fun u => absurd (by decide) u⟩, fun u => absurd rfl u⟩), fun u => absurd (by decide) u⟩⟩
  · exact j_263 ⟨fun u => absurd u (by decide), fun _ => ⟨fun _ => j_263_16 (m_f0 ⟨fun _ => ⟨fun _ => ⟨fun u => absurd u (by decide), fun _ => ⟨fun u => absurd u (by decide), fun _ => ⟨fun u => absurd u (by decide), fun _ => ⟨fun _ => m_count h1.1.1.2.1 h1.mok ⟨cnt.2.1.symm, rfl⟩, fun u => absurd rfl u⟩⟩⟩⟩, fun u => absurd (by decide) u⟩, fun u => absurd rfl u⟩), fun u => absurd (by decide) u⟩⟩
  · exact j_263 ⟨fun u => absurd u (by decide), fun _ => ⟨fun _ => j_263_16 (m_f0 ⟨fun _ => ⟨fun _ => ⟨fun u => absurd u (by decide), fun _ => ⟨fun u => absurd u (by decide), fun _ => ⟨fun u => absurd u (by decide), fun _ => ⟨fun u => absurd u (by decide), fun _ => ⟨fun _ => m_count h1.1.1.2.1 h1.mok ⟨cnt.2.2.symm, rfl⟩, fun u => absurd rfl u⟩⟩⟩⟩⟩, fun u => absurd (by decide) u⟩, fun u => absurd rfl u⟩), fun u => absurd (by decide) u⟩⟩
  · exact j_263 ⟨fun u => absurd u (by decide), fun _ => ⟨fun _ => j_263_16 (m_f0 ⟨fun _ => ⟨fun _ => ⟨fun u => absurd u (by decide), fun _ => ⟨fun u => absurd u (by decide), fun _ => ⟨fun u => absurd u (by decide), fun _ => ⟨fun u => absurd u (by decide), fun _ => ⟨fun u => absurd u (by decide), fun _ => ⟨fun _ => m_blocks h1.1.1.2.1 ⟨rfl, rfl⟩, fun u => absurd rfl u⟩⟩⟩⟩⟩⟩, fun u => absurd (by decide) u⟩, fun u => absurd rfl u⟩), fun u => absurd (by decide) u⟩⟩
  · exact j_263 ⟨fun u => absurd u (by decide), fun _ => ⟨fun _ => j_263_16 (m_f0 ⟨fun _ => ⟨fun _ => ⟨fun u => absurd u (by decide), fun _ => ⟨fun u => absurd u (by decide), fun _ => ⟨fun u => absurd u (by decide), fun _ => ⟨fun u => absurd u (by decide), fun _ => ⟨fun u => absurd u (by decide), fun _ => ⟨fun u => absurd u (by decide), fun _ => ⟨fun _ => ⟨rfl, rfl⟩, fun u => absurd rfl u⟩⟩⟩⟩⟩⟩⟩, fun u => absurd (by decide) u⟩, fun u => absurd rfl u⟩), fun u => absurd (by decide) u⟩⟩
  · exact j_263 ⟨fun u => absurd u (by decide), fun _ => ⟨fun _ => j_263_16 (m_f0 ⟨fun _ => ⟨fun _ => ⟨fun u => absurd u (by decide), fun _ => ⟨fun u => absurd u (by decide), fun _ => ⟨fun u => absurd u (by decide), fun _ => ⟨fun u => absurd u (by decide), fun _ => ⟨fun u => absurd u (by decide), fun _ => ⟨fun u => absurd u (by decide), fun _ => ⟨fun u => absurd u (by decide), fun _ => ⟨fun _ => ⟨mul7, rfl⟩, fun u => absurd rfl u⟩⟩⟩⟩⟩⟩⟩⟩, fun u => absurd (by decide) u⟩, fun u => absurd rfl u⟩), fun u => absurd (by decide) u⟩⟩
  · exact j_263 ⟨fun u => absurd u (by decide), fun _ => ⟨fun _ => j_263_16 (m_f0 ⟨fun _ => ⟨fun _ => ⟨fun u => absurd u (by decide), fun _ => ⟨fun u => absurd u (by decide), fun _ => ⟨fun u => absurd u (by decide), fun _ => ⟨fun u => absurd u (by decide), fun _ => ⟨fun u => absurd u (by decide), fun _ => ⟨fun u => absurd u (by decide), fun _ => ⟨fun u => absurd u (by decide), fun _ => ⟨fun u => absurd u (by decide), fun _ => ⟨fun _ => ⟨h1.1.2.2.1.1.symm, rfl⟩, fun u => absurd rfl u⟩⟩⟩⟩⟩⟩⟩⟩⟩, fun u => absurd (by decide) u⟩, fun u => absurd rfl u⟩), fun u => absurd (by decide) u⟩⟩
  · exact j_263 ⟨fun u => absurd u (by decide), fun _ => ⟨fun _ => j_263_16 (m_f0 ⟨fun _ => ⟨fun _ => ⟨fun u => absurd u (by decide), fun _ => ⟨fun u => absurd u (by decide), fun _ => ⟨fun u => absurd u (by decide), fun _ => ⟨fun u => absurd u (by decide), fun _ => ⟨fun u => absurd u (by decide), fun _ => ⟨fun u => absurd u (by decide), fun _ => ⟨fun u => absurd u (by decide), fun _ => ⟨fun u => absurd u (by decide), fun _ => ⟨fun u => absurd u (by decide), fun _ => ⟨fun _ => ⟨h1.1.1.2.1.2.2.2.1.2.1, rfl⟩, fun u => absurd rfl u⟩⟩⟩⟩⟩⟩⟩⟩⟩⟩, fun u => absurd (by decide) u⟩, fun u => absurd rfl u⟩), fun u => absurd (by decide) u⟩⟩
  · exact j_263 ⟨fun u => absurd u (by decide), fun _ => ⟨fun _ => j_263_16 (m_f0 ⟨fun _ => ⟨fun _ => ⟨fun u => absurd u (by decide), fun _ => ⟨fun u => absurd u (by decide), fun _ => ⟨fun u => absurd u (by decide), fun _ => ⟨fun u => absurd u (by decide), fun _ => ⟨fun u => absurd u (by decide), fun _ => ⟨fun u => absurd u (by decide), fun _ => ⟨fun u => absurd u (by decide), fun _ => ⟨fun u => absurd u (by decide), fun _ => ⟨fun u => absurd u (by decide), fun _ => ⟨fun u => absurd u (by decide), fun _ => ⟨fun _ => ⟨h1.1.1.2.1.2.2.2.1.1, rfl⟩, fun u => absurd rfl u⟩⟩⟩⟩⟩⟩⟩⟩⟩⟩⟩, fun u => absurd (by decide) u⟩, fun u => absurd rfl u⟩), fun u => absurd (by decide) u⟩⟩
  · exact j_263 ⟨fun u => absurd u (by decide), fun _ => ⟨fun _ => j_263_16 (m_f0 ⟨fun _ => ⟨fun _ => ⟨fun u => absurd u (by decide), fun _ => ⟨fun u => absurd u (by decide), fun _ => ⟨fun u => absurd u (by decide), fun _ => ⟨fun u => absurd u (by decide), fun _ => ⟨fun u => absurd u (by decide), fun _ => ⟨fun u => absurd u (by decide), fun _ => ⟨fun u => absurd u (by decide), fun _ => ⟨fun u => absurd u (by decide), fun _ => ⟨fun u => absurd u (by decide), fun _ => ⟨fun u => absurd u (by decide), fun _ => ⟨fun u => absurd u (by decide), fun _ => ⟨fun _ => m_live h1.1.1.2.1 ⟨(gCnt_congr _ _ (fun x a b => by rw [h1.rk.1.1 x a (by omega)])), rfl⟩, fun u => absurd rfl u⟩⟩⟩⟩⟩⟩⟩⟩⟩⟩⟩⟩, fun u => absurd (by decide) u⟩, fun u => absurd rfl u⟩), fun u => absurd (by decide) u⟩⟩
  · exact j_263 ⟨fun u => absurd u (by decide), fun _ => ⟨fun _ => j_263_16 (m_f0 ⟨fun _ => ⟨fun _ => ⟨fun u => absurd u (by decide), fun _ => ⟨fun u => absurd u (by decide), fun _ => ⟨fun u => absurd u (by decide), fun _ => ⟨fun u => absurd u (by decide), fun _ => ⟨fun u => absurd u (by decide), fun _ => ⟨fun u => absurd u (by decide), fun _ => ⟨fun u => absurd u (by decide), fun _ => ⟨fun u => absurd u (by decide), fun _ => ⟨fun u => absurd u (by decide), fun _ => ⟨fun u => absurd u (by decide), fun _ => ⟨fun u => absurd u (by decide), fun _ => ⟨fun u => absurd u (by decide), fun _ => ⟨fun _ => ⟨h1.1.2.1.1.symm, rfl⟩, fun u => absurd rfl u⟩⟩⟩⟩⟩⟩⟩⟩⟩⟩⟩⟩⟩, fun u => absurd (by decide) u⟩, fun u => absurd rfl u⟩), fun u => absurd (by decide) u⟩⟩
theorem k_lookM2 (hz : zhR (t, L, H)) (h : rAll d w r t L H M) (hn : rOn d w r C H M) : zEnds 118 263 0 [(29, 35), (0, 13), (9, 0), (9, 0)] [] (t, L, M) (fun v S1 => v = gCnt (fun b => ¬ mT (zB8 H 19) b) 59 (r * gGr d w * (w - 1) - 59).toNat ∧ S1 = (t, L, zupd M 35 0 0)) (fun _ _ => False) ∧ zEnds 118 263 0 [(29, 35), (0, 14), (9, 0), (9, 0)] [] (t, L, M) (fun v S1 => v = gCnt (fun i => M 45 (20 * i) = 0) 0 64 ∧ S1 = (t, L, zupd M 35 0 0)) (fun _ _ => False) ∧ zEnds 118 263 0 [(29, 35), (0, 15), (9, 0), (9, 0)] [] (t, L, M) (fun v S1 => v = gCnt (iCh (zB8 H 19) H) 25 (r * gGr d w * (w - 1) - 25).toNat ∧ S1 = (t, L, zupd M 35 0 0)) (fun _ _ => False) ∧ zEnds 118 263 0 [(29, 35), (0, 16), (9, 0), (9, 0)] [] (t, L, M) (fun v S1 => v = H 0 12 ∧ S1 = (t, L, zupd M 35 0 0)) (fun _ _ => False) ∧ zEnds 118 263 0 [(29, 35), (0, 17), (9, 0), (9, 0)] [] (t, L, M) (fun v S1 => v = H 0 13 ∧ S1 = (t, L, zupd M 35 0 0)) (fun _ _ => False) ∧ zEnds 118 263 0 [(29, 35), (0, 18), (9, 0), (9, 0)] [] (t, L, M) (fun v S1 => v = H 29 6 ∧ S1 = (t, L, zupd M 35 0 0)) (fun _ _ => False) ∧ zEnds 118 263 0 [(29, 35), (0, 19), (9, 0), (9, 0)] [] (t, L, M) (fun v S1 => v = 0 ∧ S1 = (t, L, zupd M 35 0 0)) (fun _ _ => False) := by
  have h1 : rAll d w r t L H (zupd M 35 0 0) := h.up
  have n1 : rOn d w r C H (zupd M 35 0 0) := hn.keep (fun _ _ _ => rfl) (fun q i hq => zupd_no (by omega)) (fun _ _ _ => rfl) (fun q i hq => zupd_no (by omega)) rfl
  have hk := h.1.1.1.1.1
  have hB2 := gBl_ge hk
  have on : ¬ zupd M 35 0 0 35 12 = 0 := by rw [n1.1.2.2.2.1.1]; decide
  have l43 : L 43 = 49152 := h.1.1.2.1.2.1.2.2.2.2.2.2.2.1
  refine ⟨?_, ?_, ?_, ?_, ?_, ?_, ?_⟩
  · exact j_263 ⟨fun u => absurd u (by decide), fun _ => ⟨fun _ => j_263_16 (m_f0 ⟨fun _ => ⟨fun u => absurd u (by decide), fun _ => ⟨fun u => absurd u on, fun _ => j_262 (⟨fun _ => m_freeB h1.1.1.2.1 ⟨(k_free hk n1).symm, rfl⟩, fun u => absurd rfl u⟩)⟩⟩, fun u => absurd rfl u⟩), fun u => absurd (by decide) u⟩⟩
  · exact j_263 ⟨fun u => absurd u (by decide), fun _ => ⟨fun _ => j_263_16 (m_f0 ⟨fun _ => ⟨fun u => absurd u (by decide), fun _ => ⟨fun u => absurd u on, fun _ => j_262 (⟨fun u => absurd u (by decide), fun _ => ⟨fun _ => m_freeI (mS.a h1.1.1.2.1) ⟨rfl, rfl⟩, fun u => absurd rfl u⟩⟩)⟩⟩, fun u => absurd rfl u⟩), fun u => absurd (by decide) u⟩⟩
  · exact j_263 ⟨fun u => absurd u (by decide), fun _ => ⟨fun _ => j_263_16 (m_f0 ⟨fun _ => ⟨fun u => absurd u (by decide), fun _ => ⟨fun u => absurd u on, fun _ => j_262 (⟨fun u => absurd u (by decide), fun _ => ⟨fun u => absurd u (by decide), fun _ => ⟨fun _ => m_changes (mS.a h1.1.1.2.1) n1.g.1.1.1 hB2 ⟨(r_chs hk hz n1).symm, rfl⟩, fun u => absurd rfl u⟩⟩⟩)⟩⟩, fun u => absurd rfl u⟩), fun u => absurd (by decide) u⟩⟩
  · exact j_263 ⟨fun u => absurd u (by decide), fun _ => ⟨fun _ => j_263_16 (m_f0 ⟨fun _ => ⟨fun u => absurd u (by decide), fun _ => ⟨fun u => absurd u on, fun _ => j_262 (⟨fun u => absurd u (by decide), fun _ => ⟨fun u => absurd u (by decide), fun _ => ⟨fun u => absurd u (by decide), fun _ => ⟨fun _ => ⟨n1.2.2.1.2.2.2.2.2.1.symm, rfl⟩, fun u => absurd rfl u⟩⟩⟩⟩)⟩⟩, fun u => absurd rfl u⟩), fun u => absurd (by decide) u⟩⟩
  · exact j_263 ⟨fun u => absurd u (by decide), fun _ => ⟨fun _ => j_263_16 (m_f0 ⟨fun _ => ⟨fun u => absurd u (by decide), fun _ => ⟨fun u => absurd u on, fun _ => j_262 (⟨fun u => absurd u (by decide), fun _ => ⟨fun u => absurd u (by decide), fun _ => ⟨fun u => absurd u (by decide), fun _ => ⟨fun u => absurd u (by decide), fun _ => ⟨fun _ => ⟨n1.2.2.1.2.2.2.2.2.2.symm, rfl⟩, fun u => absurd rfl u⟩⟩⟩⟩⟩)⟩⟩, fun u => absurd rfl u⟩), fun u => absurd (by decide) u⟩⟩
  · exact j_263 ⟨fun u => absurd u (by decide), fun _ => ⟨fun _ => j_263_16 (m_f0 ⟨fun _ => ⟨fun u => absurd u (by decide), fun _ => ⟨fun u => absurd u on, fun _ => j_262 (⟨fun u => absurd u (by decide), fun _ => ⟨fun u => absurd u (by decide), fun _ => ⟨fun u => absurd u (by decide), fun _ => ⟨fun u => absurd u (by decide), fun _ => ⟨fun u => absurd u (by decide), fun _ => ⟨fun _ => v_203 ⟨⟨by decide, by show 0 < L 43; omega⟩, ⟨by decide, by show 1 < L 43; omega⟩, ⟨by decide, by show 2 < L 43; omega⟩, ⟨by decide, by show 3 < L 43; omega⟩, ⟨r_seq hk n1, rfl⟩⟩, fun u => absurd rfl u⟩⟩⟩⟩⟩⟩)⟩⟩, fun u => absurd rfl u⟩), fun u => absurd (by decide) u⟩⟩
  · exact j_263 ⟨fun u => absurd u (by decide), fun _ => ⟨fun _ => j_263_16 (m_f0 ⟨fun _ => ⟨fun u => absurd u (by decide), fun _ => ⟨fun u => absurd u on, fun _ => j_262 (⟨fun u => absurd u (by decide), fun _ => ⟨fun u => absurd u (by decide), fun _ => ⟨fun u => absurd u (by decide), fun _ => ⟨fun u => absurd u (by decide), fun _ => ⟨fun u => absurd u (by decide), fun _ => ⟨fun u => absurd u (by decide), fun _ => ⟨rfl, rfl⟩⟩⟩⟩⟩⟩⟩)⟩⟩, fun u => absurd rfl u⟩), fun u => absurd (by decide) u⟩⟩
theorem look_of {v : Int} (ht : 118 ≤ t) (hX : lR X H) (hz : zhR (t, L, H)) (h : rAll d w r t L H H) {x : Int} (hx : z32 x = x) {V : zHp → Int}
    (hC : ∀ M, rAll d w r t L H M → zEnds 80 166 0 [(20, 0), (0, x)] [] (t, L, H) (fun v S1 => v = V M ∧ ∃ H1, S1 = (t, L, H1) ∧ ∀ q i, q ≠ 21 → H1 q i = H q i) (fun _ _ => False))
    (hM : ∀ M, rAll d w r t L H M → zEnds 118 263 0 [(29, 35), (0, x), (9, 0), (9, 0)] [] (t, L, M) (fun v S1 => v = V M ∧ S1 = (t, L, zupd M 35 0 0)) (fun _ _ => False)) : cOK rP 286 166 [(20, 0), (0, x)] 263 [(29, 35), (0, x), (9, 0), (9, 0)] X t L H := by
  refine cOK_rel (Q := fun M v H1 => v = V M ∧ ∀ q i, q ≠ 21 → H1 q i = H q i) (TT := fun _ => False) ht hX hz h (za_c (za_i hx za_0)) (za_m (za_i hx (za_9 (za_9 za_0)))) rfl (fun M hM' => ?_) (fun v H1 M hM' q => ?_) (fun c q => q.elim)
  · refine (hC M hM').imp ?_ ?_
    · rintro v S1 ⟨e, H1, e1, e2⟩
      exact ⟨H1, e1, fun q i hq => e2 q i (by omega), e, e2⟩
    · exact fun _ _ u => u.elim
  · refine (hM M hM').imp ?_ ?_
    · rintro b S1 ⟨e, e1⟩
      refine ⟨e.trans q.1.symm, _, e1, fM.rfl'.upd (by decide), zupd_at, ?_⟩
      have h1 : rAll d w r t L H (zupd M 35 0 0) := hM'.up
      have iG : gI d w r t L H1 := h.1.1.1.keep (fun q' i hq => q.2 q' i (by omega)) (fun q' i hq => by rw [q.2 q' i (by omega)]; exact h.1.1.1.1.2.2.2 q' i (by omega))
      refine ⟨h1.1.keep2 iG (fun q' i hq => q.2 q' i (by omega)) (fun _ _ _ => rfl), ?_⟩
      rcases h1.2 with ⟨C, a⟩ | ⟨C, O, a⟩
      · exact Or.inl ⟨C, a.keep (fun q' i hq => q.2 q' i (by omega)) (fun _ _ _ => rfl) (fun q' i hq => q.2 q' i (by omega)) (fun _ _ _ => rfl) (q.2 0 11 (by decide))⟩
      · exact Or.inr ⟨C, O, a.keep (fun q' i hq => q.2 q' i (by omega)) (fun _ _ _ => rfl) (a.2.1.of (fun i _ => q.2 3 i (by decide)) (fun _ _ => rfl))⟩
    · exact fun _ _ u => u
theorem q_look (ht : 118 ≤ t) (hX : lR X H) (hz : zhR (t, L, H)) (h : rAll d w r t L H H) (x : Int) (hx : z32 x = x) : cOK rP 286 166 [(20, 0), (0, x)] 263 [(29, 35), (0, x), (9, 0), (9, 0)] X t L H := by
  by_cases c : 0 ≤ x ∧ x ≤ 12
  · have e : x = 0 ∨ x = 1 ∨ x = 2 ∨ x = 3 ∨ x = 4 ∨ x = 5 ∨ x = 6 ∨ x = 7 ∨ x = 8 ∨ x = 9 ∨ x = 10 ∨ x = 11 ∨ x = 12 := by omega
    rcases e with rfl | rfl | rfl | rfl | rfl | rfl | rfl | rfl | rfl | rfl | rfl | rfl | rfl
    · exact look_of (v := 0) ht hX hz h hx (V := fun M => H 0 11) (fun M hM => (k_lookC hM).1) (fun M hM => (k_lookM hM).1)
    · exact look_of (v := 0) ht hX hz h hx (V := fun M => H 3 10) (fun M hM => (k_lookC hM).2.1) (fun M hM => (k_lookM hM).2.1)
    · exact look_of (v := 0) ht hX hz h hx (V := fun M => gCnt (fun s => H 13 s = -1) 0 (r * gPo d w).toNat) (fun M hM => (k_lookC hM).2.2.1) (fun M hM => (k_lookM hM).2.2.1)
    · exact look_of (v := 0) ht hX hz h hx (V := fun M => gCnt (gSpoilt d w r H) 0 (r * gPo d w).toNat) (fun M hM => (k_lookC hM).2.2.2.1) (fun M hM => (k_lookM hM).2.2.2.1)
    · exact look_of (v := 0) ht hX hz h hx (V := fun M => gSum (fun row => gCnt (gFree d w r H row) (gPo d w) (d - gPo d w).toNat) 0 r.toNat) (fun M hM => (k_lookC hM).2.2.2.2.1) (fun M hM => (k_lookM hM).2.2.2.2.1)
    · exact look_of (v := 0) ht hX hz h hx (V := fun M => r * gGr d w * (w - 1)) (fun M hM => (k_lookC hM).2.2.2.2.2.1) (fun M hM => (k_lookM hM).2.2.2.2.2.1)
    · exact look_of (v := 0) ht hX hz h hx (V := fun M => 0) (fun M hM => (k_lookC hM).2.2.2.2.2.2.1) (fun M hM => (k_lookM hM).2.2.2.2.2.2.1)
    · exact look_of (v := 0) ht hX hz h hx (V := fun M => r * gGr d w) (fun M hM => (k_lookC hM).2.2.2.2.2.2.2.1) (fun M hM => (k_lookM hM).2.2.2.2.2.2.2.1)
    · exact look_of (v := 0) ht hX hz h hx (V := fun M => H 16 4) (fun M hM => (k_lookC hM).2.2.2.2.2.2.2.2.1) (fun M hM => (k_lookM hM).2.2.2.2.2.2.2.2.1)
    · exact look_of (v := 0) ht hX hz h hx (V := fun M => w) (fun M hM => (k_lookC hM).2.2.2.2.2.2.2.2.2.1) (fun M hM => (k_lookM hM).2.2.2.2.2.2.2.2.2.1)
    · exact look_of (v := 0) ht hX hz h hx (V := fun M => d) (fun M hM => (k_lookC hM).2.2.2.2.2.2.2.2.2.2.1) (fun M hM => (k_lookM hM).2.2.2.2.2.2.2.2.2.2.1)
    · exact look_of (v := 0) ht hX hz h hx (V := fun M => gCnt (fun x => H 4 x ≠ 0) 0 d.toNat) (fun M hM => (k_lookC hM).2.2.2.2.2.2.2.2.2.2.2.1) (fun M hM => (k_lookM hM).2.2.2.2.2.2.2.2.2.2.2.1)
    · exact look_of (v := 0) ht hX hz h hx (V := fun M => H 0 10) (fun M hM => (k_lookC hM).2.2.2.2.2.2.2.2.2.2.2.2) (fun M hM => (k_lookM hM).2.2.2.2.2.2.2.2.2.2.2.2)
  by_cases c2 : 0 ≤ x ∧ x ≤ 19
  · rcases h.on with ⟨o1, o2⟩ | ⟨o1, o2⟩
    · have on : ∀ {M}, rAll d w r t L H M → ∃ C, rOn d w r C H M := fun {M} hM => by
        rcases hM.2 with a | ⟨C, O, a⟩
        · exact a
        · have := a.2.2.1.2
          omega
      have e : x = 13 ∨ x = 14 ∨ x = 15 ∨ x = 16 ∨ x = 17 ∨ x = 18 ∨ x = 19 := by omega
      rcases e with rfl | rfl | rfl | rfl | rfl | rfl | rfl
      · exact look_of (v := 0) ht hX hz h hx (V := fun M => gCnt (fun b => ¬ mT (zB8 H 19) b) 59 (r * gGr d w * (w - 1) - 59).toNat) (fun M hM => (k_lookC2 hM (on hM).choose_spec).1) (fun M hM => (k_lookM2 hz hM (on hM).choose_spec).1)
      · exact look_of (v := 0) ht hX hz h hx (V := fun M => gCnt (fun i => M 45 (20 * i) = 0) 0 64) (fun M hM => (k_lookC2 hM (on hM).choose_spec).2.1) (fun M hM => (k_lookM2 hz hM (on hM).choose_spec).2.1)
      · exact look_of (v := 0) ht hX hz h hx (V := fun M => gCnt (iCh (zB8 H 19) H) 25 (r * gGr d w * (w - 1) - 25).toNat) (fun M hM => (k_lookC2 hM (on hM).choose_spec).2.2.1) (fun M hM => (k_lookM2 hz hM (on hM).choose_spec).2.2.1)
      · exact look_of (v := 0) ht hX hz h hx (V := fun M => H 0 12) (fun M hM => (k_lookC2 hM (on hM).choose_spec).2.2.2.1) (fun M hM => (k_lookM2 hz hM (on hM).choose_spec).2.2.2.1)
      · exact look_of (v := 0) ht hX hz h hx (V := fun M => H 0 13) (fun M hM => (k_lookC2 hM (on hM).choose_spec).2.2.2.2.1) (fun M hM => (k_lookM2 hz hM (on hM).choose_spec).2.2.2.2.1)
      · exact look_of (v := 0) ht hX hz h hx (V := fun M => H 29 6) (fun M hM => (k_lookC2 hM (on hM).choose_spec).2.2.2.2.2.1) (fun M hM => (k_lookM2 hz hM (on hM).choose_spec).2.2.2.2.2.1)
      · exact look_of (v := 0) ht hX hz h hx (V := fun M => 0) (fun M hM => (k_lookC2 hM (on hM).choose_spec).2.2.2.2.2.2) (fun M hM => (k_lookM2 hz hM (on hM).choose_spec).2.2.2.2.2.2)
    · refine look_of (v := 0) ht hX hz h hx (V := fun M => -1) (fun M hM => j_166 ⟨fun u => by omega, fun _ => ⟨fun _ => ⟨fun _ => ⟨fun _ => ⟨rfl, H, rfl, fun _ _ _ => rfl⟩, fun u => absurd o1 u⟩, fun u => by omega⟩, fun u => absurd c2.2 u⟩⟩) (fun M hM => ?_)
      have z : zupd M 35 0 0 35 12 = 0 := by
        rcases hM.on with v | v
        · omega
        · exact v.2
      exact j_263 ⟨fun u => by omega, fun _ => ⟨fun _ => j_263_16 (m_f0 ⟨fun _ => ⟨fun u => by omega, fun _ => ⟨fun _ => ⟨rfl, rfl⟩, fun u => absurd z u⟩⟩, fun u => absurd rfl u⟩), fun u => absurd c2.2 u⟩⟩
  · refine cOK_rel (Q := fun _ _ _ => False) (TT := fun c => c = 1) ht hX hz h (za_c (za_i hx za_0)) (za_m (za_i hx (za_9 (za_9 za_0)))) rfl (fun M hM => ?_) (fun v H1 M hM q => q.elim) (fun c q => ⟨1, by rw [q]; rfl, by decide, fun t' ht' => ?_⟩)
    · exact j_166 ⟨fun _ => j_166_10 ⟨ht, by decide, rfl, rfl⟩, fun _ => ⟨fun u => absurd ⟨by omega, u⟩ c2, fun _ => j_166_10 ⟨ht, by decide, rfl, rfl⟩⟩⟩
    · have q : zEnds 118 263 16 [(29, 35), (0, x), (9, 0), (9, 0)] [(0, 1), (29, 35)] (t', L, H) (fun _ S2 => S2 = (t', L, zupd H 35 0 1)) (fun _ _ => False) := j_263_16 (m_f1 ⟨fun u => absurd u (by decide), fun _ => rfl⟩)
      exact j_263 ⟨fun _ => j_263_11 q, fun _ => ⟨fun u => absurd ⟨by omega, u⟩ c2, fun _ => j_263_11 q⟩⟩
end LOOK3
