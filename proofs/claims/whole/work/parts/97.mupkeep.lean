/-! The steps of rebuilding, copying back and scrubbing: the reference's. -/
section MUPKEEP
variable {d w r : Int} {t : Nat} {L : Int → Int} {H : zHp} {Qr Qt : Int → zS → Prop}
theorem m_putsC {x o as : Int} (h : mS d w r L H) (hx : 0 ≤ x ∧ x < d) (ho : 0 ≤ o ∧ o ≤ r) (hl : -1 ≤ H 35 13 ∧ H 35 13 ≤ 2147483647) (h0 : H 35 13 = 0 → Qr 0 (t, L, mOff H)) (h1 : H 35 13 ≠ 0 → Qr 1 (t, L, mPw H x o as)) : zEnds 118 194 0 [(29, 35), (0, x), (0, o), (0, as), (9, 0)] [] (t, L, H) Qr Qt := by
  refine m_puts h hx ho hl ?_
  unfold mPt
  by_cases c : H 35 13 = 0
  · rw [if_pos c]; exact h0 c
  · rw [if_neg c]; exact h1 c
theorem mSpare_rg {row : Int} (hk : gOK d w r) (h : mSpare d w H row ≠ -1) : ∃ q, (gPo d w ≤ q ∧ q < d) ∧ mSpare d w H row = gDk d row q ∧ mFree d w H row q := by
  unfold mSpare at h ⊢
  rcases gFirst_spec (mFree d w H row) (d - gPo d w).toNat (gPo d w) with e | ⟨e1, e2, e3, e4⟩
  · rw [if_pos e.1] at h; exact absurd rfl h
  · have po := gPo_rg hk
    have w3 := hk.2.2.1
    rw [if_neg (by omega)]
    exact ⟨_, by omega, rfl, e3⟩
theorem mSpare_ge {row : Int} (hk : gOK d w r) : mSpare d w H row = -1 ∨ 0 ≤ mSpare d w H row := by
  by_cases c : mSpare d w H row = -1
  · exact Or.inl c
  · obtain ⟨q, -, e, -⟩ := mSpare_rg hk c
    rw [e]
    exact Or.inr (gDk_rg hk).1
def mCr (d w : Int) (H : zHp) (s : Int) : Prop := mPs d w H s < 0 ∧ H 37 (gHome d w s) = 0 ∧ mSpare d w H (s / gPo d w) ≠ -1
theorem m_rebuild (h : mS d w r L H) (hl : -1 ≤ H 35 13 ∧ H 35 13 ≤ 2147483647) (h0 : (∀ s, 0 ≤ s → s < r * gPo d w → ¬ mCr d w H s) → Qr 0 (t, L, H))
    (h1 : ∀ s, (0 ≤ s ∧ s < r * gPo d w) → mCr d w H s → (∀ u, 0 ≤ u → u < s → ¬ mCr d w H u) → (H 35 13 = 0 → Qr (-9) (t, L, mOff H)) ∧ (H 35 13 ≠ 0 → Qr 1 (t, L, zupd (mPw H (mSpare d w H (s / gPo d w)) (s / gPo d w) (s % gPo d w + 1)) 41 (16 * (s / gPo d w) + s % gPo d w) (mSpare d w H (s / gPo d w))))) : zEnds 118 213 24 [(29, 35), (0, 0), (9, 0), (9, 0)] [] (t, L, H) Qr Qt := by
  have hk := h.1
  have po := gPo_rg hk
  have w3 := hk.2.2.1
  have d16 := hk.2.1
  have r64 := hk.2.2.2.2.2.2
  have r48 := hk.2.2.2.2.2.1
  have e3 : H 35 3 = r := h.2.2.2.1.2.2.1
  have l37 : L 37 = 16 := h.2.1.2.1
  have l41 : L 41 = 1024 := h.2.1.2.2.2.2.2.1
  have pm := mPo_z h
  have rows : ∀ (n : Nat) (row : Int), 0 ≤ row → row + n = r → (∀ u, 0 ≤ u → u < row * gPo d w → ¬ mCr d w H u) → zEnds 118 213 24 [(29, 35), (0, row), (9, 0), (9, 0)] [] (t, L, H) Qr Qt := by
    intro n
    induction n with
    | zero =>
      intro row a b hn
      have e : row = r := by omega
      rw [e] at hn
      exact j_213_24 ⟨fun _ => h0 hn, fun u => absurd (by show H 35 3 ≤ row; omega) u⟩
    | succ n ih =>
      intro row a b hn
      refine j_213_24 ⟨fun u => absurd u (by show ¬ H 35 3 ≤ row; omega), fun _ => m_freeSpare h (by omega) ?_⟩
      have inner : ∀ (m : Nat) (p : Int), 0 ≤ p → p + m = gPo d w → (∀ u, 0 ≤ u → u < row * gPo d w + p → ¬ mCr d w H u) → zEnds 118 213 40 [(29, 35), (0, row), (0, mSpare d w H row), (0, p)] [] (t, L, H) Qr Qt := by
        intro m
        induction m with
        | zero =>
          intro p p0 p1 hn
          refine j_213_40 ⟨fun _ => j_213_118 ?_, fun u => absurd (by show z32 (H 35 2 * H 35 4) ≤ p; omega) u⟩
          rw [z32_id (x := row + 1) (by omega) (by omega)]
          refine ih (row + 1) (by omega) (by omega) ?_
          rw [Int.add_mul, Int.one_mul, show gPo d w = p by omega]
          have e : p = gPo d w := by omega
          rw [e] at hn ⊢
          exact hn
        | succ m ihm =>
          intro p p0 p1 hn
          have hp : 0 ≤ p ∧ p < gPo d w := by omega
          have rg := gRow_of (row := row) hk hp
          have sr := gSpot_rg hk ⟨a, by omega⟩ hp
          have hg := gDk_rg (row := row) (pos := p) hk
          have hm : gHome d w (row * gPo d w + p) = gDk d row p := by unfold gHome; rw [rg.1, rg.2]
          have nx : ¬ mCr d w H (row * gPo d w + p) → zEnds 118 213 112 [(29, 35), (0, row), (0, mSpare d w H row), (0, p)] [] (t, L, H) Qr Qt := fun hc => by
            refine j_213_112 ?_
            rw [z32_id (x := p + 1) (by omega) (by omega)]
            exact ihm (p + 1) (by omega) (by omega) (fun u u0 u1 => by
              by_cases c : u = row * gPo d w + p
              · rw [c]; exact hc
              · exact hn u u0 (by omega))
          have eP : mPs d w H (row * gPo d w + p) = mPl d w H row p := by unfold mPs; rw [rg.1, rg.2]
          refine j_213_40 ⟨fun u => absurd u (by show ¬ z32 (H 35 2 * H 35 4) ≤ p; omega), fun _ => ⟨fun u => ?_, fun u => m_placeOf h (by omega) hp ⟨fun v => nx (fun c => by have := c.1; omega), fun v => m_diskOf h (by omega) (by omega) ⟨by show 0 ≤ gDk d row p ∧ gDk d row p < L 37; omega, fun z => ?_, fun z => nx (fun c => z (by have := c.2.1; rw [hm] at this; exact this))⟩⟩⟩⟩
          · -- no spare: the row is through
            have e1 : mSpare d w H row = -1 := (mSpare_ge (row := row) hk).resolve_right (fun q => by omega)
            refine j_213_118 ?_
            rw [z32_id (x := row + 1) (by omega) (by omega)]
            refine ih (row + 1) (by omega) (by omega) (fun v v0 v1 hc => ?_)
            by_cases c : v < row * gPo d w + p
            · exact hn v v0 c hc
            · have e2 : v / gPo d w = row := by
                have q := Int.mul_ediv_add_emod v (gPo d w)
                have q1 := Int.emod_nonneg v (show gPo d w ≠ 0 by omega)
                have q2 := Int.emod_lt_of_pos v (show 0 < gPo d w by omega)
                rw [Int.add_mul, Int.one_mul] at v1
                have l1 : row * gPo d w ≤ gPo d w * (v / gPo d w) + gPo d w - 1 := by omega
                have l2 : gPo d w * (v / gPo d w) < row * gPo d w + gPo d w := by omega
                rw [Int.mul_comm (gPo d w) (v / gPo d w)] at l1 l2
                have k1 : row < v / gPo d w + 1 := by
                  apply Int.lt_of_mul_lt_mul_right (a := gPo d w) _ (by omega)
                  rw [Int.add_mul]
                  omega
                have k2 : v / gPo d w < row + 1 := by
                  apply Int.lt_of_mul_lt_mul_right (a := gPo d w) _ (by omega)
                  rw [Int.add_mul]
                  omega
                omega
              have := hc.2.2
              rw [e2] at this
              exact this e1
          · have z : H 37 (gDk d row p) = 0 := z
            have u : ¬ mSpare d w H row < 0 := u
            have sn : mSpare d w H row ≠ -1 := by omega
            have cr : mCr d w H (row * gPo d w + p) := ⟨by rw [eP]; have v : ¬ 0 ≤ mPl d w H row p := v; omega, by rw [hm]; exact z, by rw [rg.1]; exact sn⟩
            have hh := h1 _ sr cr hn
            rw [rg.1, rg.2] at hh
            obtain ⟨q, hq, eq, -⟩ := mSpare_rg hk sn
            have xr : 0 ≤ mSpare d w H row ∧ mSpare d w H row < d := by rw [eq]; exact gDk_rg hk
            have e16 : z32 (z32 (16 * row) + p) = 16 * row + p := by rw [z32_id (x := 16 * row) (by omega) (by omega)]; exact z32_id (by omega) (by omega)
            rw [z32_id (x := p + 1) (by omega) (by omega)]
            refine m_putsC h xr (by omega) hl (fun y => ⟨fun x => absurd rfl x, fun _ => hh.1 y⟩) (fun y => ⟨fun _ => ?_, fun x => absurd (by decide) x⟩)
            rw [e16]
            exact ⟨by show 0 ≤ 16 * row + p ∧ 16 * row + p < L 41; omega, hh.2 y⟩
      exact inner (gPo d w).toNat 0 (by omega) (by omega) (fun u u0 u1 => hn u u0 (by omega))
  exact rows r.toNat 0 (by omega) (by omega) (fun u u0 u1 => by rw [Int.zero_mul] at u1; omega)
def mCc (d w : Int) (H : zHp) (s : Int) : Prop := H 37 (gHome d w s) ≠ 0 ∧ H 38 (65 * gHome d w s + s / gPo d w) = 0
theorem m_copyBack (h : mS d w r L H) (hO : mOk d w r H) (hl : -1 ≤ H 35 13 ∧ H 35 13 ≤ 2147483647) (h0 : (∀ s, 0 ≤ s → s < r * gPo d w → ¬ mCc d w H s) → Qr 0 (t, L, H))
    (h1 : ∀ s, (0 ≤ s ∧ s < r * gPo d w) → mCc d w H s → (∀ u, 0 ≤ u → u < s → ¬ mCc d w H u) → (H 35 13 = 0 → Qr (-9) (t, L, mOff H)) ∧ (H 35 13 ≠ 0 → ∀ K, K = zupd (mPw H (gHome d w s) (s / gPo d w) (s % gPo d w + 1)) 41 (16 * (s / gPo d w) + s % gPo d w) (gHome d w s) → (mPs d w H s < 0 → Qr 1 (t, L, K)) ∧ (¬ mPs d w H s < 0 → (K 35 13 = 0 → Qr (-9) (t, L, mOff K)) ∧ (K 35 13 ≠ 0 → Qr 1 (t, L, mPw K (mPs d w H s) (s / gPo d w) 0))))) : zEnds 118 214 24 [(29, 35), (0, 0), (9, 0), (9, 0), (9, 0)] [] (t, L, H) Qr Qt := by
  have hk := h.1
  have po := gPo_rg hk
  have w3 := hk.2.2.1
  have d16 := hk.2.1
  have r64 := hk.2.2.2.2.2.2
  have r48 := hk.2.2.2.2.2.1
  have e3 : H 35 3 = r := h.2.2.2.1.2.2.1
  have l37 : L 37 = 16 := h.2.1.2.1
  have l38 : L 38 = 1040 := h.2.1.2.2.1
  have l41 : L 41 = 1024 := h.2.1.2.2.2.2.2.1
  have pm := mPo_z h
  have rows : ∀ (n : Nat) (row : Int), 0 ≤ row → row + n = r → (∀ u, 0 ≤ u → u < row * gPo d w → ¬ mCc d w H u) → zEnds 118 214 24 [(29, 35), (0, row), (9, 0), (9, 0), (9, 0)] [] (t, L, H) Qr Qt := by
    intro n
    induction n with
    | zero =>
      intro row a b hn
      have e : row = r := by omega
      rw [e] at hn
      exact j_214_24 ⟨fun _ => h0 hn, fun u => absurd (by show H 35 3 ≤ row; omega) u⟩
    | succ n ih =>
      intro row a b hn
      refine j_214_24 ⟨fun u => absurd u (by show ¬ H 35 3 ≤ row; omega), fun _ => ?_⟩
      have inner : ∀ (m : Nat) (p : Int), 0 ≤ p → p + m = gPo d w → (∀ u, 0 ≤ u → u < row * gPo d w + p → ¬ mCc d w H u) → zEnds 118 214 34 [(29, 35), (0, row), (0, p), (9, 0), (9, 0)] [] (t, L, H) Qr Qt := by
        intro m
        induction m with
        | zero =>
          intro p p0 p1 hn
          refine j_214_34 ⟨fun _ => ?_, fun u => absurd (by show z32 (H 35 2 * H 35 4) ≤ p; omega) u⟩
          rw [z32_id (x := row + 1) (by omega) (by omega)]
          refine ih (row + 1) (by omega) (by omega) ?_
          rw [Int.add_mul, Int.one_mul]
          have e : p = gPo d w := by omega
          rw [e] at hn
          exact hn
        | succ m ihm =>
          intro p p0 p1 hn
          have hp : 0 ≤ p ∧ p < gPo d w := by omega
          have rg := gRow_of (row := row) hk hp
          have sr := gSpot_rg hk ⟨a, by omega⟩ hp
          have hg := gDk_rg (row := row) (pos := p) hk
          have hm : gHome d w (row * gPo d w + p) = gDk d row p := by unfold gHome; rw [rg.1, rg.2]
          have nx : ∀ x3, ¬ mCc d w H (row * gPo d w + p) → zEnds 118 214 137 [(29, 35), (0, row), (0, p), (0, x3), (9, 0)] [] (t, L, H) Qr Qt := fun x3 hc => by
            refine j_214_137 ?_
            rw [z32_id (x := p + 1) (by omega) (by omega)]
            exact ihm (p + 1) (by omega) (by omega) (fun u u0 u1 => by
              by_cases c : u = row * gPo d w + p
              · rw [c]; exact hc
              · exact hn u u0 (by omega))
          have eP : mPs d w H (row * gPo d w + p) = mPl d w H row p := by unfold mPs; rw [rg.1, rg.2]
          refine j_214_34 ⟨fun u => absurd u (by show ¬ z32 (H 35 2 * H 35 4) ≤ p; omega), fun _ => m_diskOf h (by omega) (by omega) ⟨by show 0 ≤ gDk d row p ∧ gDk d row p < L 37; omega, fun u => nx _ (fun c => c.1 (by rw [hm]; exact u)), fun u => m_at (by omega) (by omega) ⟨by show 0 ≤ 65 * gDk d row p + row ∧ 65 * gDk d row p + row < L 38; omega, fun v => m_placeOf h (by omega) hp ?_, fun v => nx _ (fun c => v (by have := c.2; rw [hm, rg.1] at this; exact this))⟩⟩⟩
          have u : H 37 (gDk d row p) ≠ 0 := u
          have v : H 38 (65 * gDk d row p + row) = 0 := v
          have cr : mCc d w H (row * gPo d w + p) := ⟨by rw [hm]; exact u, by rw [hm, rg.1]; exact v⟩
          have hh := h1 _ sr cr hn
          have ok := hO row p a (by omega) hp.1 hp.2
          rw [rg.1, rg.2, hm, eP] at hh
          have e16 : z32 (z32 (16 * row) + p) = 16 * row + p := by rw [z32_id (x := 16 * row) (by omega) (by omega)]; exact z32_id (by omega) (by omega)
          rw [z32_id (x := p + 1) (by omega) (by omega)]
          refine m_putsC h hg (by omega) hl (fun y => ⟨fun x => absurd rfl x, fun _ => hh.1 y⟩) (fun y => ⟨fun _ => ?_, fun x => absurd (by decide) x⟩)
          rw [e16]
          have hK := hh.2 y _ rfl
          refine ⟨by show 0 ≤ 16 * row + p ∧ 16 * row + p < L 41; omega, fun z => j_214_130 (hK.1 z), fun z => ?_⟩
          have z : ¬ mPl d w H row p < 0 := z
          have sK : mS d w r L (zupd (mPw H (gDk d row p) row (p + 1)) 41 (16 * row + p) (gDk d row p)) := by
            have := mPt_S (x := gDk d row p) (o := row) (as := p + 1) h
            unfold mPt at this
            rw [if_neg y] at this
            exact this.upd (by omega)
          have l13 : -1 ≤ zupd (mPw H (gDk d row p) row (p + 1)) 41 (16 * row + p) (gDk d row p) 35 13 ∧ zupd (mPw H (gDk d row p) row (p + 1)) 41 (16 * row + p) (gDk d row p) 35 13 ≤ 2147483647 := by
            have := mPt_13 (x := gDk d row p) (o := row) (as := p + 1) hl
            unfold mPt at this
            rw [if_neg y] at this
            rw [zupd_ne (by decide)]
            exact this
          exact m_putsC sK (by omega) (by omega) l13 (fun c => ⟨fun _ => (hK.2 z).1 c, fun u => absurd rfl u⟩) (fun c => ⟨fun u => absurd u (by decide), fun _ => j_214_130 ((hK.2 z).2 c)⟩)
      exact inner (gPo d w).toNat 0 (by omega) (by omega) (fun u u0 u1 => hn u u0 (by omega))
  exact rows r.toNat 0 (by omega) (by omega) (fun u u0 u1 => by rw [Int.zero_mul] at u1; omega)
/-- a spot is spoilt -/
def mSps (d w : Int) (H : zHp) (u : Int) : Prop := mSpt d w H (u / gPo d w) (u % gPo d w)
theorem m_scrub {F : Int} (h : mS d w r L H) (hO : mOk d w r H) (hl : -1 ≤ H 35 13 ∧ H 35 13 ≤ 2147483647) (hF : 0 ≤ F ∧ F < r * gPo d w ∧ F % w = 0)
    (h0 : (∀ v, F ≤ v → v < F + w → ¬ mSps d w H v) → Qr 0 (t, L, H))
    (h1 : ∀ u, F ≤ u → u < F + w → mSps d w H u → (∀ v, F ≤ v → v < u → ¬ mSps d w H v) → (H 35 13 = 0 → Qr (-9) (t, L, mOff H)) ∧ (H 35 13 ≠ 0 → Qr 1 (t, L, mPw H (mPs d w H u) (u / gPo d w) (u % gPo d w + 1)))) : zEnds 118 215 69 [(29, 35), (0, F / gPo d w), (0, F % gPo d w), (0, F % gPo d w)] [] (t, L, H) Qr Qt := by
  have hk := h.1
  have po := gPo_rg hk
  have w3 := hk.2.2.1
  have w8 := hk.2.2.2.1
  have d16 := hk.2.1
  have r64 := hk.2.2.2.2.2.2
  have r48 := hk.2.2.2.2.2.1
  have e2 : H 35 2 = w := h.2.2.2.1.2.1
  have qF := gSp_rg hk ⟨hF.1, hF.2.1⟩
  have sF := gStripe hk ⟨hF.1, hF.2.1⟩
  rw [hF.2.2] at sF
  have dv : F % gPo d w + w ≤ gPo d w := by
    have g : (F + w - 1) / gPo d w = F / gPo d w := gRow_same hk ⟨hF.1, hF.2.1⟩ (by rw [hF.2.2]; omega) (by rw [hF.2.2]; omega)
    have a := Int.mul_ediv_add_emod (F + w - 1) (gPo d w)
    have b := Int.emod_lt_of_pos (F + w - 1) (show 0 < gPo d w by omega)
    have c := Int.mul_ediv_add_emod F (gPo d w)
    rw [g] at a
    omega
  have key : ∀ (n : Nat) (k : Int), 0 ≤ k → k + n = w → (∀ v, F ≤ v → v < F + k → ¬ mSps d w H v) → zEnds 118 215 69 [(29, 35), (0, F / gPo d w), (0, F % gPo d w), (0, F % gPo d w + k)] [] (t, L, H) Qr Qt := by
    intro n
    induction n with
    | zero =>
      intro k k0 k1 hn
      have e : z32 (F % gPo d w + H 35 2) = F % gPo d w + w := by rw [e2]; exact z32_id (by omega) (by omega)
      have ek : k = w := by omega
      rw [ek] at hn
      exact j_215_69 ⟨fun _ => h0 hn, fun u => absurd (by show z32 (F % gPo d w + H 35 2) ≤ F % gPo d w + k; omega) u⟩
    | succ n ih =>
      intro k k0 k1 hn
      have e : z32 (F % gPo d w + H 35 2) = F % gPo d w + w := by rw [e2]; exact z32_id (by omega) (by omega)
      have ek : z32 (F % gPo d w + k + 1) = F % gPo d w + (k + 1) := by rw [z32_id (by omega) (by omega)]; omega
      have fe : F + k = F / gPo d w * gPo d w + (F % gPo d w + k) := by have := gSpot_of (s := F) hk; omega
      have rg := gRow_of (row := F / gPo d w) (p := F % gPo d w + k) hk (by omega)
      have c1 : (F + k) / gPo d w = F / gPo d w := by rw [fe]; exact rg.1
      have c2 : (F + k) % gPo d w = F % gPo d w + k := by rw [fe]; exact rg.2
      have es : mSps d w H (F + k) ↔ mSpt d w H (F / gPo d w) (F % gPo d w + k) := by unfold mSps; rw [c1, c2]
      refine j_215_69 ⟨fun u => absurd u (by show ¬ z32 (F % gPo d w + H 35 2) ≤ F % gPo d w + k; omega), fun _ => m_isSpoilt h hO qF.1 (by omega) (fun y => ⟨fun u => absurd u (by decide), fun _ => m_placeOf h qF.1 (by omega) ?_⟩) (fun y => ⟨fun _ => ?_, fun u => absurd rfl u⟩)⟩
      · have hh := h1 (F + k) (by omega) (by omega) (es.mpr y) hn
        have ok := hO (F / gPo d w) (F % gPo d w + k) qF.1.1 qF.1.2 (by omega) (by omega)
        have y1 := y.1
        unfold mPs at hh
        rw [c1, c2] at hh
        rw [z32_id (x := F % gPo d w + k + 1) (by omega) (by omega)]
        exact m_putsC h (by omega) (by omega) hl (fun z => ⟨fun _ => hh.1 z, fun u => absurd rfl u⟩) (fun z => ⟨fun u => absurd u (by decide), fun _ => hh.2 z⟩)
      · rw [ek]
        exact ih (k + 1) (by omega) (by omega) (fun v v0 v1 => by
          by_cases c : v = F + k
          · rw [c, es]; exact y
          · exact hn v v0 (by omega))
  have e0 : F % gPo d w = F % gPo d w + 0 := by omega
  have := key w.toNat 0 (by omega) (by omega) (fun v v0 v1 => by omega)
  rw [← e0] at this
  exact this
end MUPKEEP
