/-! look: the reference's counts, and one look at a new object. -/
theorem gCnt_none {P : Int → Prop} : ∀ (n : Nat) (a : Int), (∀ i, a ≤ i → i < a + n → ¬ P i) → gCnt P a n = 0 := by
  intro n
  induction n with
  | zero => intro a _; rfl
  | succ n ih =>
    intro a h
    rw [gCnt_no (h a (by omega) (by omega))]
    exact ih (a + 1) (fun i i0 i1 => h i (by omega) (by omega))
/-- what DiskPoolModel.count counts -/
def mCP (d w : Int) (H : zHp) (what row p : Int) : Prop := (what = 2 ∧ p < gPo d w ∧ mPl d w H row p < 0) ∨ (what = 3 ∧ p < gPo d w ∧ mSpt d w H row p) ∨ (what = 4 ∧ gPo d w ≤ p ∧ mFree d w H row p)
theorem gCnt_snoc {P : Int → Prop} {a : Int} {n : Nat} (h : P (a + n)) : gCnt P a (n + 1) = gCnt P a n + 1 := by
  rw [gCnt_add n 1 a, gCnt_yes h]
  rfl
theorem gCnt_snocn {P : Int → Prop} {a : Int} {n : Nat} (h : ¬ P (a + n)) : gCnt P a (n + 1) = gCnt P a n := by
  rw [gCnt_add n 1 a, gCnt_no h]
  exact Int.add_zero _
theorem gSum_bd {f : Int → Int} {c : Int} : ∀ (n : Nat) (a : Int), (∀ x, a ≤ x → x < a + n → 0 ≤ f x ∧ f x ≤ c) → 0 ≤ gSum f a n ∧ gSum f a n ≤ n * c := by
  intro n
  induction n with
  | zero => intro a _; exact ⟨Int.le_refl 0, by show (0 : Int) ≤ ((0 : Nat) : Int) * c; rw [show ((0 : Nat) : Int) = 0 from rfl, Int.zero_mul]; exact Int.le_refl 0⟩
  | succ n ih =>
    intro a h
    have h1 := ih a (fun x x0 x1 => h x x0 (by omega))
    have h2 := h (a + n) (by omega) (by omega)
    rw [gSum_snoc]
    have : ((n + 1 : Nat) : Int) * c = n * c + c := by
      rw [show ((n + 1 : Nat) : Int) = (n : Int) + 1 by omega, Int.add_mul, Int.one_mul]
    omega
section COUNT
variable {d w r : Int} {t : Nat} {L : Int → Int} {H : zHp} {Qr Qt : Int → zS → Prop}
theorem m_count {what : Int} (h : mS d w r L H) (ho : mOk d w r H) (hQ : Qr (gSum (fun row => gCnt (mCP d w H what row) 0 d.toNat) 0 r.toNat) (t, L, H)) : zEnds 118 261 0 [(29, 35), (0, what), (9, 0), (9, 0), (9, 0), (9, 0)] [] (t, L, H) Qr Qt := by
  have hk := h.1
  have po := gPo_rg hk
  obtain ⟨d1, d2, w1, w2, wd, r1, r2⟩ := hk
  have hk := h.1
  have e1 : H 35 1 = d := h.2.2.2.1.1
  have e3 : H 35 3 = r := h.2.2.2.1.2.2.1
  have l37 : L 37 = 16 := h.2.1.2.1
  have mul : z32 (H 35 2 * H 35 4) = gPo d w := by
    rw [h.2.2.2.1.2.1, h.2.2.2.1.2.2.2.1]
    show z32 (gPo d w) = gPo d w
    exact z32_id (by omega) (by omega)
  have bd : ∀ row n, 0 ≤ gCnt (mCP d w H what row) 0 n ∧ gCnt (mCP d w H what row) 0 n ≤ n := fun row n => gCnt_rg _ _ _
  have rows : ∀ (n : Nat) (row : Int), 0 ≤ row → row + n = r → zEnds 118 261 4 [(29, 35), (0, what), (0, gSum (fun row => gCnt (mCP d w H what row) 0 d.toNat) 0 row.toNat), (0, row), (9, 0), (9, 0)] [] (t, L, H) Qr Qt := by
    intro n
    induction n with
    | zero =>
      intro row w0 w1'
      have er : row = r := by omega
      rw [er]
      exact j_261_4 ⟨fun _ => hQ, fun u => absurd (by show H 35 3 ≤ r; omega) u⟩
    | succ n ih =>
      intro row w0 w1'
      have sb := gSum_bd (f := fun row => gCnt (mCP d w H what row) 0 d.toNat) (c := 16) row.toNat 0 (fun x _ _ => ⟨(bd x _).1, by have := (bd x d.toNat).2; omega⟩)
      refine j_261_4 ⟨fun u => absurd u (by show ¬ H 35 3 ≤ row; omega), fun _ => ?_⟩
      generalize hs : gSum (fun row => gCnt (mCP d w H what row) 0 d.toNat) 0 row.toNat = s at sb
      have inner : ∀ (m : Nat) (p : Int), 0 ≤ p → p + m = d → zEnds 118 261 15 [(29, 35), (0, what), (0, s + gCnt (mCP d w H what row) 0 p.toNat), (0, row), (0, p), (9, 0)] [] (t, L, H) Qr Qt := by
        intro m
        induction m with
        | zero =>
          intro p q0 q1
          refine j_261_15 ⟨fun _ => ?_, fun u => absurd (by show H 35 1 ≤ p; omega) u⟩
          have ep : p = d := by omega
          have es := gSum_snoc (f := fun row => gCnt (mCP d w H what row) 0 d.toNat) row.toNat 0
          rw [show (0 : Int) + ((row.toNat : Nat) : Int) = row by omega, hs, show row.toNat + 1 = (row + 1).toNat by omega] at es
          rw [ep, ← es, z32_id (x := row + 1) (by omega) (by omega)]
          exact ih (row + 1) (by omega) (by omega)
        | succ m ihm =>
          intro p q0 q1
          have b0 := bd row p.toNat
          have hr : 0 ≤ row ∧ row < r := by omega
          have yes : mCP d w H what row p → zEnds 118 261 149 [(29, 35), (0, what), (0, s + gCnt (mCP d w H what row) 0 p.toNat + 1), (0, row), (0, p), (9, 0)] [] (t, L, H) Qr Qt := fun q => j_261_149 (by
            have e := gCnt_snoc (P := mCP d w H what row) (a := 0) (n := p.toNat) (by rw [show (0 : Int) + ((p.toNat : Nat) : Int) = p by omega]; exact q)
            rw [show p.toNat + 1 = (p + 1).toNat by omega] at e
            rw [z32_id (x := p + 1) (by omega) (by omega), show s + gCnt (mCP d w H what row) 0 p.toNat + 1 = s + gCnt (mCP d w H what row) 0 (p + 1).toNat by omega]
            exact ihm (p + 1) (by omega) (by omega))
          have no : ¬ mCP d w H what row p → zEnds 118 261 149 [(29, 35), (0, what), (0, s + gCnt (mCP d w H what row) 0 p.toNat), (0, row), (0, p), (9, 0)] [] (t, L, H) Qr Qt := fun q => j_261_149 (by
            have e := gCnt_snocn (P := mCP d w H what row) (a := 0) (n := p.toNat) (by rw [show (0 : Int) + ((p.toNat : Nat) : Int) = p by omega]; exact q)
            rw [show p.toNat + 1 = (p + 1).toNat by omega] at e
            rw [z32_id (x := p + 1) (by omega) (by omega), ← e]
            exact ihm (p + 1) (by omega) (by omega))
          have z0 : z32 (s + gCnt (mCP d w H what row) 0 p.toNat + 0) = s + gCnt (mCP d w H what row) 0 p.toNat := by rw [Int.add_zero]; exact z32_id (by omega) (by omega)
          have z1 : z32 (s + gCnt (mCP d w H what row) 0 p.toNat + 1) = s + gCnt (mCP d w H what row) 0 p.toNat + 1 := z32_id (by omega) (by omega)
          -- from the flag on
          have flag : ∀ y : Int, (y = 0 ↔ p < gPo d w) → zEnds 118 261 43 [(29, 35), (0, what), (0, s + gCnt (mCP d w H what row) 0 p.toNat), (0, row), (0, p), (9, 0)] [(0, y)] (t, L, H) Qr Qt := fun y hy => by
            have a4 : ∀ x : Int, (what = 4 → x = s + gCnt (mCP d w H what row) 0 p.toNat) → (what ≠ 4 → zEnds 118 261 149 [(29, 35), (0, what), (0, x), (0, row), (0, p), (9, 0)] [] (t, L, H) Qr Qt) → zEnds 118 261 101 [(29, 35), (0, what), (0, x), (0, row), (0, p), (0, y)] [] (t, L, H) Qr Qt := fun x hx hn => by
              refine j_261_101 ⟨fun u => hn u, fun u => ?_⟩
              have w4 : what = 4 := by omega
              have n2 : ¬ (what = 2 ∧ p < gPo d w ∧ mPl d w H row p < 0) := fun v => by omega
              have n3 : ¬ (what = 3 ∧ p < gPo d w ∧ mSpt d w H row p) := fun v => by omega
              rw [hx w4]
              refine ⟨fun y0 => j_261_146 (j_261_147 (by rw [z0]; exact no (fun q => by rcases q with q | q | q; exact n2 q; exact n3 q; have := hy.mp y0; omega))), fun y0 => ?_⟩
              have hp : gPo d w ≤ p := by
                by_cases c : p < gPo d w
                · exact absurd (hy.mpr c) y0
                · omega
              have hg := gDk_rg (row := row) (pos := p) hk
              refine m_diskOf h (by omega) (by omega) ⟨by show 0 ≤ gDk d row p ∧ gDk d row p < L 37; omega, fun v => j_261_146 (j_261_147 (by rw [z0]; exact no (fun q => by rcases q with q | q | q; exact n2 q; exact n3 q; exact q.2.2.1 v))), fun v => m_diskOf h (by omega) (by omega) (m_holder h hr ⟨fun f => j_261_146 (j_261_147 (by rw [z0]; exact no (fun q => by rcases q with q | q | q; exact n2 q; exact n3 q; have := q.2.2.2; omega))), fun f => j_261_147 (by rw [z1]; exact yes (Or.inr (Or.inr ⟨w4, hp, v, by omega⟩)))⟩)⟩
            have a3 : ∀ x : Int, (what ≠ 2 → x = s + gCnt (mCP d w H what row) 0 p.toNat) → (what = 2 → zEnds 118 261 149 [(29, 35), (0, what), (0, x), (0, row), (0, p), (9, 0)] [] (t, L, H) Qr Qt) → zEnds 118 261 73 [(29, 35), (0, what), (0, x), (0, row), (0, p), (0, y)] [] (t, L, H) Qr Qt := fun x hx hn => by
              refine j_261_73 ⟨fun u => a4 x (fun v => hx (by omega)) (fun v => ?_), fun u => ?_⟩
              · by_cases w2 : what = 2
                · exact hn w2
                · rw [hx w2]
                  exact no (fun q => by rcases q with q | q | q <;> omega)
              · have w3 : what = 3 := by omega
                have n2 : ¬ (what = 2 ∧ p < gPo d w ∧ mPl d w H row p < 0) := fun v => by omega
                have n4 : ¬ (what = 4 ∧ gPo d w ≤ p ∧ mFree d w H row p) := fun v => by omega
                rw [hx (by omega)]
                have go : ∀ z : Int, zEnds 118 261 149 [(29, 35), (0, what), (0, z), (0, row), (0, p), (9, 0)] [] (t, L, H) Qr Qt → zEnds 118 261 101 [(29, 35), (0, what), (0, z), (0, row), (0, p), (0, y)] [] (t, L, H) Qr Qt := fun z q => a4 z (fun v => by omega) (fun _ => q)
                refine ⟨fun y0 => j_261_98 (j_261_99 (by rw [z0]; exact go _ (no (fun q => by rcases q with q | q | q; exact n2 q; exact y0 (hy.mpr q.2.1); exact n4 q)))), fun y0 => ?_⟩
                have hp : p < gPo d w := hy.mp (by omega)
                exact m_isSpoilt h ho hr (by omega) (fun q => ⟨fun v => absurd v (by decide), fun _ => j_261_99 (by rw [z1]; exact go _ (yes (Or.inr (Or.inl ⟨w3, hp, q⟩))))⟩) (fun q => ⟨fun _ => j_261_98 (j_261_99 (by rw [z0]; exact go _ (no (fun q' => by rcases q' with q' | q' | q'; exact n2 q'; exact q q'.2.2; exact n4 q')))), fun v => absurd rfl v⟩)
            refine j_261_43 ⟨fun u => a3 _ (fun _ => rfl) (fun v => absurd v u), fun u => ?_⟩
            have w2 : what = 2 := by omega
            have n3 : ¬ (what = 3 ∧ p < gPo d w ∧ mSpt d w H row p) := fun v => by omega
            have n4 : ¬ (what = 4 ∧ gPo d w ≤ p ∧ mFree d w H row p) := fun v => by omega
            have go : ∀ z : Int, zEnds 118 261 149 [(29, 35), (0, what), (0, z), (0, row), (0, p), (9, 0)] [] (t, L, H) Qr Qt → zEnds 118 261 73 [(29, 35), (0, what), (0, z), (0, row), (0, p), (0, y)] [] (t, L, H) Qr Qt := fun z q => a3 z (fun v => absurd w2 v) (fun _ => q)
            refine ⟨fun y0 => j_261_70 (j_261_71 (by rw [z0]; exact go _ (no (fun q => by rcases q with q | q | q; exact y0 (hy.mpr q.2.1); exact n3 q; exact n4 q)))), fun y0 => ?_⟩
            have hp : p < gPo d w := hy.mp (by omega)
            exact m_placeOf h hr (by omega) ⟨fun q => j_261_70 (j_261_71 (by rw [z0]; exact go _ (no (fun q' => by rcases q' with q' | q' | q'; have := q'.2.2; omega; exact n3 q'; exact n4 q')))), fun q => j_261_71 (by rw [z1]; exact go _ (yes (Or.inl ⟨w2, hp, by omega⟩)))⟩
          refine j_261_15 ⟨fun u => absurd u (by show ¬ H 35 1 ≤ p; omega), fun _ => ⟨fun u => flag 0 ⟨fun _ => ?_, fun _ => rfl⟩, fun u => flag 1 ⟨fun v => absurd v (by decide), fun v => absurd ?_ u⟩⟩⟩
          · have u : p < z32 (H 35 2 * H 35 4) := u
            rw [mul] at u
            exact u
          · show p < z32 (H 35 2 * H 35 4)
            rw [mul]
            exact v
      have st := inner d.toNat 0 (by omega) (by omega)
      rw [show gCnt (mCP d w H what row) 0 (0 : Int).toNat = 0 from rfl, Int.add_zero] at st
      exact st
  exact j_261 (rows r.toNat 0 (by omega) (by omega))
/-- the reference's loops over disks, blocks, inodes -/
theorem m_live (h : mS d w r L H) (hQ : Qr (gCnt (fun x => H 37 x ≠ 0) 0 d.toNat) (t, L, H)) : zEnds 118 263 170 [(29, 35), (9, 0), (0, 0), (0, 0)] [] (t, L, H) Qr Qt := by
  have hk := h.1
  obtain ⟨d1, d2, -⟩ := hk
  have e1 : H 35 1 = d := h.2.2.2.1.1
  have l37 : L 37 = 16 := h.2.1.2.1
  have key : ∀ (n : Nat) (x : Int), 0 ≤ x → x + n = d → zEnds 118 263 170 [(29, 35), (9, 0), (0, gCnt (fun x => H 37 x ≠ 0) 0 x.toNat), (0, x)] [] (t, L, H) Qr Qt := by
    intro n
    induction n with
    | zero =>
      intro x x0 x1
      have ex : x = d := by omega
      rw [ex]
      exact j_263_170 ⟨fun _ => hQ, fun u => absurd (by show H 35 1 ≤ d; omega) u⟩
    | succ n ih =>
      intro x x0 x1
      have b := gCnt_rg (fun x => H 37 x ≠ 0) x.toNat 0
      have st := ih (x + 1) (by omega) (by omega)
      refine j_263_170 ⟨fun u => absurd u (by show ¬ H 35 1 ≤ x; omega), fun _ => ⟨by show 0 ≤ x ∧ x < L 37; omega, fun u => j_263_193 ?_, fun u => j_263_193 ?_⟩⟩
      · have e := gCnt_snocn (P := fun x => H 37 x ≠ 0) (a := 0) (n := x.toNat) (by rw [show (0 : Int) + ((x.toNat : Nat) : Int) = x by omega]; exact fun v => v u)
        rw [show x.toNat + 1 = (x + 1).toNat by omega] at e
        rw [z32_id (x := x + 1) (by omega) (by omega), Int.add_zero, z32_id (by omega) (by omega), ← e]
        exact st
      · have e := gCnt_snoc (P := fun x => H 37 x ≠ 0) (a := 0) (n := x.toNat) (by rw [show (0 : Int) + ((x.toNat : Nat) : Int) = x by omega]; exact u)
        rw [show x.toNat + 1 = (x + 1).toNat by omega] at e
        rw [z32_id (x := x + 1) (by omega) (by omega), z32_id (by omega) (by omega), ← e]
        exact st
  exact key d.toNat 0 (by omega) (by omega)
theorem m_freeB (h : mS d w r L H) (hQ : Qr (gCnt (fun b => H 46 b = 0) 0 (r * gGr d w * (w - 1)).toNat) (t, L, H)) : zEnds 118 262 42 [(29, 35), (9, 0), (0, 0), (0, 0)] [] (t, L, H) Qr Qt := by
  have hk := h.1
  have hB := gBl_le hk
  have hB2 := gBl_ge hk
  have l46 : L 46 = 768 := h.2.2.1.2.1
  have key : ∀ (n : Nat) (x : Int), 0 ≤ x → x + n = r * gGr d w * (w - 1) → zEnds 118 262 42 [(29, 35), (9, 0), (0, gCnt (fun b => H 46 b = 0) 0 x.toNat), (0, x)] [] (t, L, H) Qr Qt := by
    intro n
    induction n with
    | zero =>
      intro x x0 x1
      have ex : x = r * gGr d w * (w - 1) := by omega
      rw [ex]
      exact j_262_42 (m_blocks h ⟨fun _ => hQ, fun u => absurd (Int.le_refl _) u⟩)
    | succ n ih =>
      intro x x0 x1
      have b := gCnt_rg (fun b => H 46 b = 0) x.toNat 0
      have st := ih (x + 1) (by omega) (by omega)
      refine j_262_42 (m_blocks h ⟨fun u => by omega, fun _ => ⟨by show 0 ≤ x ∧ x < L 46; omega, fun u => j_262_65 ?_, fun u => j_262_65 ?_⟩⟩)
      · have e := gCnt_snocn (P := fun b => H 46 b = 0) (a := 0) (n := x.toNat) (by rw [show (0 : Int) + ((x.toNat : Nat) : Int) = x by omega]; exact u)
        rw [show x.toNat + 1 = (x + 1).toNat by omega] at e
        rw [z32_id (x := x + 1) (by omega) (by omega), Int.add_zero, z32_id (by omega) (by omega), ← e]
        exact st
      · have u : H 46 x = 0 := by
          by_cases c : H 46 x = 0
          · exact c
          · exact absurd c u
        have e := gCnt_snoc (P := fun b => H 46 b = 0) (a := 0) (n := x.toNat) (by rw [show (0 : Int) + ((x.toNat : Nat) : Int) = x by omega]; exact u)
        rw [show x.toNat + 1 = (x + 1).toNat by omega] at e
        rw [z32_id (x := x + 1) (by omega) (by omega), z32_id (by omega) (by omega), ← e]
        exact st
  exact key (r * gGr d w * (w - 1)).toNat 0 (by omega) (by omega)
theorem m_freeI {G : zHp} {A : aSt} (h : mA d w r G A L H) (hQ : Qr (gCnt (fun i => A.1 (20 * i) = 0) 0 64) (t, L, H)) : zEnds 118 262 77 [(29, 35), (9, 0), (0, 0), (0, 0)] [] (t, L, H) Qr Qt := by
  have key : ∀ (n : Nat) (x : Int), 0 ≤ x → x + n = 64 → zEnds 118 262 77 [(29, 35), (9, 0), (0, gCnt (fun i => A.1 (20 * i) = 0) 0 x.toNat), (0, x)] [] (t, L, H) Qr Qt := by
    intro n
    induction n with
    | zero =>
      intro x x0 x1
      have ex : x = 64 := by omega
      rw [ex]
      exact j_262_77 ⟨fun _ => hQ, fun u => absurd (Int.le_refl _) u⟩
    | succ n ih =>
      intro x x0 x1
      have b := gCnt_rg (fun i => A.1 (20 * i) = 0) x.toNat 0
      have st := ih (x + 1) (by omega) (by omega)
      refine j_262_77 ⟨fun u => by omega, fun _ => m_kind h (by omega) ⟨fun u => j_262_97 ?_, fun u => j_262_97 ?_⟩⟩
      · have e := gCnt_snocn (P := fun i => A.1 (20 * i) = 0) (a := 0) (n := x.toNat) (by rw [show (0 : Int) + ((x.toNat : Nat) : Int) = x by omega]; exact u)
        rw [show x.toNat + 1 = (x + 1).toNat by omega] at e
        rw [z32_id (x := x + 1) (by omega) (by omega), Int.add_zero, z32_id (by omega) (by omega), ← e]
        exact st
      · have u : A.1 (20 * x) = 0 := by
          by_cases c : A.1 (20 * x) = 0
          · exact c
          · exact absurd c u
        have e := gCnt_snoc (P := fun i => A.1 (20 * i) = 0) (a := 0) (n := x.toNat) (by rw [show (0 : Int) + ((x.toNat : Nat) : Int) = x by omega]; exact u)
        rw [show x.toNat + 1 = (x + 1).toNat by omega] at e
        rw [z32_id (x := x + 1) (by omega) (by omega), z32_id (by omega) (by omega), ← e]
        exact st
  exact key 64 0 (by omega) (by omega)
end COUNT
