/-! open. -/
section OPEN
variable {d w r : Int} {t : Nat} {L : Int → Int} {H M X : zHp} {Qr Qt : Int → zS → Prop} {C : Int → Int → Int} {O : Int → Int}
/-- Image.fillFrom -/
theorem c_fill (gi : gI d w r t L H) (vs : vS d w r C H M) (hQ : ∀ K, gI d w r t L K → (∀ q i, q ≠ 19 → q ≠ 20 → q ≠ 22 → K q i = H q i) → (∀ b j, 25 ≤ b → b < r * gGr d w * (w - 1) → 0 ≤ j → j < 8 → K 20 (8 * b + j) = C (gSo w b) j) → (∀ i, 0 ≤ i → i < 8 * (r * gGr d w * (w - 1)) → K 19 i = K 20 i) → Qr 0 (t, L, K)) : zEnds 80 77 0 [(25, 18), (23, 12), (9, 0)] [] (t, L, H) Qr Qt := by
  have hk := gi.1.1
  have bl := gBl_le hk
  have hB2 := gBl_ge hk
  have l19 : L 19 = 8 * (r * gGr d w * (w - 1)) := gi.1.2.1.2.2.1
  have l20 : L 20 = 8 * (r * gGr d w * (w - 1)) := gi.1.2.1.2.2.2.1
  have l22 : L 22 = r * gGr d w * (w - 1) := gi.1.2.1.2.2.2.2.2.1
  have wd : gWd 20 := Or.inr (Or.inr (Or.inr (Or.inl rfl)))
  have key : ∀ (n : Nat) (b : Int) (G : zHp), 25 ≤ b → b + n = r * gGr d w * (w - 1) → gI d w r t L G → (∀ q i, q ≠ 20 → q ≠ 22 → G q i = H q i) → (∀ c j, 25 ≤ c → c < b → 0 ≤ j → j < 8 → G 20 (8 * c + j) = C (gSo w c) j) → zEnds 80 77 3 [(25, 18), (23, 12), (0, b)] [] (t, L, G) Qr Qt := by
    intro n
    induction n with
    | zero =>
      intro b G b0 b1 g e1 e2
      have n1 : G 18 1 = r * gGr d w * (w - 1) := g.1.2.2.1.2.2.2.2
      have z8 : z32 (8 * (r * gGr d w * (w - 1))) = 8 * (r * gGr d w * (w - 1)) := z32_id (by omega) (by omega)
      refine v_77_3 ⟨fun _ => ⟨?_, ?_⟩, fun u => absurd (by show G 18 1 ≤ b; omega) u⟩
      · show 0 ≤ z32 (8 * G 18 1) ∧ (0 : Int) ≤ 0 ∧ (0 : Int) ≤ 0 ∧ 0 + z32 (8 * G 18 1) ≤ L 20 ∧ 0 + z32 (8 * G 18 1) ≤ L 19 ∧ (20 : Int) ≠ 19
        rw [n1, z8]
        omega
      · show Qr 0 (t, L, zcpy G 20 0 19 0 (z32 (8 * G 18 1)))
        rw [n1, z8]
        have ne : ∀ q i, q ≠ 19 → zcpy G 20 0 19 0 (8 * (r * gGr d w * (w - 1))) q i = G q i := fun q i hq => by
          unfold zcpy
          rw [if_neg (fun z => hq z.1)]
        refine hQ _ (g.keep (fun q i hq => ne q i (by omega)) (fun q i hq => by rw [ne q i (by omega)]; exact g.1.2.2.2 q i (by omega))) (fun q i q1 q2 q3 => by rw [ne q i q1]; exact e1 q i q2 q3) (fun c j c0 c1 j0 j1 => by rw [ne 20 _ (by decide)]; exact e2 c j c0 (by omega) j0 j1) (fun i i0 i1 => ?_)
        rw [ne 20 i (by decide)]
        unfold zcpy
        rw [if_pos ⟨rfl, i0, by omega⟩]
        congr 1
        omega
    | succ n ih =>
      intro b G b0 b1 g e1 e2
      have n1 : G 18 1 = r * gGr d w * (w - 1) := g.1.2.2.1.2.2.2.2
      have vsG : vS d w r C G M := vs.keep (fun q i hq => e1 q i (by omega) (by omega)) (fun _ _ _ => rfl)
      have ld := vsG.ld (b := b) (wd := 20) (at' := 8 * b) hk (by omega) wd
      have ne : ∀ q i, q ≠ 20 → gLd d w r G 20 (8 * b) (gSo w b) q i = G q i := fun q i hq => gLd_ne hq
      refine v_77_3 ⟨fun u => absurd u (by show ¬ G 18 1 ≤ b; omega), fun _ => ?_⟩
      rw [z32_id (x := 8 * b) (by omega) (by omega), z32_id (x := b + 1) (by omega) (by omega)]
      refine g_load g.1 g.2 (by omega) wd (by show 0 ≤ 8 * b ∧ 8 * b + 8 ≤ L 20 ∧ L 20 ≤ 1000000; omega) ⟨⟨by show 0 ≤ b ∧ b < L 22; omega, Or.inl rfl⟩, ?_⟩
      refine ih (b + 1) _ (by omega) (by omega) ?_ (fun q i q1 q2 => by show zupd (gLd d w r G 20 (8 * b) (gSo w b)) 22 b 0 q i = _; rw [zupd_ne q2, ne q i q1]; exact e1 q i q1 q2) (fun c j c0 c1 j0 j1 => ?_)
      · refine g.keep (fun q i hq => by show zupd (gLd d w r G 20 (8 * b) (gSo w b)) 22 b 0 q i = _; rw [zupd_ne (by omega), ne q i (by omega)]) (fun q i hq => ?_)
        show zupd (gLd d w r G 20 (8 * b) (gSo w b)) 22 b 0 q i = 0 ∨ zupd (gLd d w r G 20 (8 * b) (gSo w b)) 22 b 0 q i = 1
        by_cases c : q = 22 ∧ i = b
        · rw [c.1, c.2, zupd_at]
          exact Or.inl rfl
        · rw [zupd_no c, ne q i (by omega)]
          exact g.1.2.2.2 q i (by omega)
      · show zupd (gLd d w r G 20 (8 * b) (gSo w b)) 22 b 0 20 (8 * c + j) = _
        rw [zupd_ne (by decide)]
        by_cases cb : c = b
        · rw [cb]
          exact ld j j0 j1
        · rw [gLd_out (by omega)]
          exact e2 c j c0 (by omega) j0 j1
  exact v_77 (key (r * gGr d w * (w - 1) - 25).toNat 25 H (by decide) (by omega) gi (fun _ _ _ _ => rfl) (fun c j c0 c1 => by omega))
/-- the places as DiskPoolModel.open finds them -/
noncomputable def plK (d w : Int) (M : zHp) (row p : Int) : zHp := fun q i => if q = 41 ∧ (0 ≤ i ∧ i % 16 < gPo d w) ∧ (i / 16 < row ∨ (i / 16 = row ∧ i % 16 < p)) then mFound d w M (i / 16) (i % 16) else M q i
theorem plK_ne {row p q i : Int} (h : q ≠ 41) : plK d w M row p q i = M q i := by
  unfold plK
  rw [if_neg (fun z => h z.1)]
theorem mFound_of {M' : zHp} {row p : Int} (e : ∀ q i, q ≠ 41 → M' q i = M q i) : mFound d w M' row p = mFound d w M row p := by
  have t : ∀ q, mTold d M' row p q ↔ mTold d M row p q := fun q => by
    unfold mTold mVal
    simp only [e 37 _ (by decide), e 38 _ (by decide), e 39 _ (by decide), e 40 _ (by decide)]
  unfold mFound mFs
  rw [e 37 _ (by decide), e 38 _ (by decide), gFirst_congr _ _ (fun i _ _ => t i)]
theorem m_finds (ms : mS d w r L M) (hQ : zEnds 118 207 16 [(29, 35), (0, r), (9, 0)] [] (t, L, plK d w M r 0) Qr Qt) : zEnds 118 207 16 [(29, 35), (0, 0), (9, 0)] [] (t, L, M) Qr Qt := by
  have hk := ms.1
  have po := gPo_rg hk
  have w3 := hk.2.2.1
  have r1 := hk.2.2.2.2.2.1
  have r2 := hk.2.2.2.2.2.2
  have d2 := hk.2.1
  have l41 : L 41 = 1024 := ms.2.1.2.2.2.2.2.1
  have pole : gPo d w ≤ 16 := by omega
  have mK : ∀ row p, mS d w r L (plK d w M row p) := fun row p => ms.of (fun i _ => plK_ne (by decide)) (fun i => plK_ne (by decide))
  have rows : ∀ (n : Nat) (row : Int), 0 ≤ row → row + n = r → zEnds 118 207 16 [(29, 35), (0, row), (9, 0)] [] (t, L, plK d w M row 0) Qr Qt := by
    intro n
    induction n with
    | zero =>
      intro row r0 r1
      have : row = r := by omega
      rw [this]
      exact hQ
    | succ n ih =>
      intro row r0 r1
      have e3 : plK d w M row 0 35 3 = r := (mK row 0).2.2.2.1.2.2.1
      refine v_207_16 ⟨fun u => absurd u (by show ¬ plK d w M row 0 35 3 ≤ row; omega), fun _ => ?_⟩
      have cols : ∀ (m : Nat) (p : Int), 0 ≤ p → p + m = gPo d w → zEnds 118 207 26 [(29, 35), (0, row), (0, p)] [] (t, L, plK d w M row p) Qr Qt := by
        intro m
        induction m with
        | zero =>
          intro p p0 p1
          have pm := mPo_z (mK row p)
          refine v_207_26 ⟨fun _ => ?_, fun u => absurd (by show z32 (plK d w M row p 35 2 * plK d w M row p 35 4) ≤ p; omega) u⟩
          rw [z32_id (x := row + 1) (by omega) (by omega)]
          have e : plK d w M row p = plK d w M (row + 1) 0 := funext (fun q => funext (fun i => by
            unfold plK
            by_cases c : q = 41 ∧ (0 ≤ i ∧ i % 16 < gPo d w) ∧ (i / 16 < row ∨ (i / 16 = row ∧ i % 16 < p))
            · rw [if_pos c, if_pos ⟨c.1, c.2.1, by omega⟩]
            · rw [if_neg c, if_neg (fun z => c ⟨z.1, z.2.1, by omega⟩)]))
          rw [e]
          exact ih (row + 1) (by omega) (by omega)
        | succ m ihm =>
          intro p p0 p1
          have pm := mPo_z (mK row p)
          refine v_207_26 ⟨fun u => absurd u (by show ¬ z32 (plK d w M row p 35 2 * plK d w M row p 35 4) ≤ p; omega), fun _ => m_found (mK row p) (by omega) (by omega) ?_⟩
          have z1 : z32 (z32 (16 * row) + p) = 16 * row + p := by rw [z32_id (x := 16 * row) (by omega) (by omega), z32_id (by omega) (by omega)]
          rw [z1, z32_id (x := p + 1) (by omega) (by omega), mFound_of (fun q i hq => plK_ne hq)]
          refine ⟨by show 0 ≤ 16 * row + p ∧ 16 * row + p < L 41; omega, ?_⟩
          have e : zupd (plK d w M row p) 41 (16 * row + p) (mFound d w M row p) = plK d w M row (p + 1) := funext (fun q => funext (fun i => by
            by_cases c0 : q = 41 ∧ i = 16 * row + p
            · rw [c0.1, c0.2, zupd_at]
              unfold plK
              rw [if_pos ⟨rfl, by omega, by omega⟩, show (16 * row + p) / 16 = row by omega, show (16 * row + p) % 16 = p by omega]
            · rw [zupd_no c0]
              unfold plK
              by_cases c : q = 41 ∧ (0 ≤ i ∧ i % 16 < gPo d w) ∧ (i / 16 < row ∨ (i / 16 = row ∧ i % 16 < p))
              · rw [if_pos c, if_pos ⟨c.1, c.2.1, by omega⟩]
              · rw [if_neg c, if_neg (fun z => c ⟨z.1, z.2.1, by omega⟩)]))
          show zEnds 118 207 26 [(29, 35), (0, row), (0, p + 1)] [] (t, L, zupd (plK d w M row p) 41 (16 * row + p) (mFound d w M row p)) Qr Qt
          rw [e]
          exact ihm (p + 1) (by omega) (by omega)
      exact cols (gPo d w).toNat 0 (by decide) (by omega)
  have e : plK d w M 0 0 = M := funext (fun q => funext (fun i => by
    unfold plK
    rw [if_neg (by omega)]))
  have q := rows r.toNat 0 (by decide) (by omega)
  rw [e] at q
  exact q
theorem aRel.by {N N' : Int → Int} {i f : Int} (h : aRel N N') (hi : 0 ≤ i ∧ i < 64) (hf : 0 ≤ f) : nBy N' i f = nBy N i f := by
  obtain ⟨⟨c0, c1, c2⟩, ex⟩ := h i hi.1 hi.2
  unfold nBy
  rw [c0, c1, c2]
  by_cases a : f < 4
  · by_cases f0 : f = 0
    · rw [if_pos f0, if_pos f0]
    · rw [if_neg f0, if_neg f0]
      by_cases f1 : f = 1
      · rw [if_pos f1, if_pos f1]
      · rw [if_neg f1, if_neg f1, if_pos a, if_pos a]
  · rw [if_neg (show ¬ f = 0 by omega), if_neg (show ¬ f = 1 by omega), if_neg a, if_neg (show ¬ f = 0 by omega), if_neg (show ¬ f = 1 by omega), if_neg a]
    by_cases c : N (20 * i + 2) ≤ (f - 4) / 3
    · rw [if_pos c, if_pos c]
    · rw [if_neg c, if_neg c, (ex ((f - 4) / 3) (by omega) (by omega)).1, (ex ((f - 4) / 3) (by omega) (by omega)).2]
theorem aSame.mby {B b k : Int} {A A' : aSt} {V : Int → Int} (h : aSame B A A') (hB : B ≤ 768) (hb : 25 ≤ b ∧ b < B) (hk : 0 ≤ k ∧ k < 64) (o : 0 < A.2.1 b) : mBy B A' V b k = mBy B A V b k := by
  have o' : 0 < A'.2.1 b := by rw [h.2.1 b (by omega) (by omega)]; exact o
  unfold mBy
  rw [if_neg (show ¬ (b < 25 ∨ A'.2.1 b = 0) by omega), if_neg (show ¬ (b < 25 ∨ A.2.1 b = 0) by omega)]
  by_cases c : b < 57
  · rw [if_pos c, if_pos c, h.1.by (by omega) (by omega)]
  · rw [if_neg c, if_neg c]
    by_cases c2 : b < 59
    · rw [if_pos c2, if_pos c2]
      unfold mMap
      refine gSum_congr _ _ (fun j j0 j1 => ?_)
      have : mBit B A'.2.1 (512 * (b - 57) + 8 * k + j) = mBit B A.2.1 (512 * (b - 57) + 8 * k + j) := by
        unfold mBit
        by_cases x : 512 * (b - 57) + 8 * k + j < B
        · rw [h.2.1 _ (by omega) (by omega)]
        · rw [if_neg (fun z => x z.1), if_neg (fun z => x z.1)]
      rw [this]
    · rw [if_neg c2, if_neg c2]
      exact h.2.2 b k (by omega) hb.2 o hk.1 hk.2
end OPEN
