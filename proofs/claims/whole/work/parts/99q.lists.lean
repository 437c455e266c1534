/-! The blocks that are changed, listed there and here. -/
/-- how many are changed below b -/
noncomputable def cN (P : Int → Prop) (b : Int) : Int := gCnt P 25 (b - 25).toNat
theorem cN_0 {P : Int → Prop} : cN P 25 = 0 := rfl
theorem cN_y {P : Int → Prop} {b : Int} (hb : 25 ≤ b) (h : P b) : cN P (b + 1) = cN P b + 1 := by
  unfold cN
  rw [show (b + 1 - 25).toNat = (b - 25).toNat + 1 by omega]
  exact gCnt_snoc (by rw [show (25 : Int) + ((b - 25).toNat : Int) = b by omega]; exact h)
theorem cN_n {P : Int → Prop} {b : Int} (hb : 25 ≤ b) (h : ¬ P b) : cN P (b + 1) = cN P b := by
  unfold cN
  rw [show (b + 1 - 25).toNat = (b - 25).toNat + 1 by omega]
  exact gCnt_snocn (by rw [show (25 : Int) + ((b - 25).toNat : Int) = b by omega]; exact h)
theorem cN_mono {P : Int → Prop} {a b : Int} (ha : 25 ≤ a) (h : a ≤ b) : 0 ≤ cN P a ∧ cN P a ≤ cN P b := by
  unfold cN
  refine ⟨(gCnt_rg P _ _).1, ?_⟩
  rw [show (b - 25).toNat = (a - 25).toNat + (b - a).toNat by omega, gCnt_add]
  have := (gCnt_rg P (b - a).toNat (25 + ((a - 25).toNat : Int))).1
  omega
theorem cN_lt {P : Int → Prop} {a b : Int} (ha : 25 ≤ a) (h : a < b) (hP : P a) : cN P a < cN P b := by
  have := cN_y ha hP
  have := (cN_mono (P := P) (a := a + 1) (b := b) (by omega) (by omega)).2
  omega
theorem cN_sur {P : Int → Prop} : ∀ (n : Nat) (i : Int), 0 ≤ i → i < cN P (25 + n) → ∃ b : Int, 25 ≤ b ∧ b < 25 + n ∧ P b ∧ cN P b = i := by
  intro n
  induction n with
  | zero =>
    intro i i0 i1
    have : cN P (25 + ((0 : Nat) : Int)) = 0 := rfl
    omega
  | succ n ih =>
    intro i i0 i1
    by_cases c : i < cN P (25 + n)
    · obtain ⟨b, b0, b1, b2, b3⟩ := ih i i0 c
      exact ⟨b, b0, by omega, b2, b3⟩
    · have e : (25 : Int) + ((n + 1 : Nat) : Int) = (25 + n) + 1 := by omega
      rw [e] at i1
      by_cases y : P (25 + n)
      · rw [cN_y (by omega) y] at i1
        exact ⟨(25 : Int) + n, by omega, by omega, y, by omega⟩
      · rw [cN_n (by omega) y] at i1
        omega
section LISTS
variable {d w r : Int} {t : Nat} {L : Int → Int} {H M G X : zHp} {Qr Qt : Int → zS → Prop} {C : Int → Int → Int}
theorem fS.rest {B : Int} {β : Int → Int} (h : fS H B 0 [] β L H) (e : ∀ q i, (q = 18 ∨ q = 19 ∨ q = 22 ∨ q = 23) → G q i = H q i) : fS G B 0 [] β L G := by
  refine ⟨h.1, iT.rest (by rw [e 18 1 (by omega)]; exact h.num) ?_ (fun x x0 x1 => ?_) (fun x => ⟨?_, ?_⟩), fun j hj => ?_⟩
  · rw [e 18 8 (by omega)]
    have q := h.2.1.2.2.1
    have q2 : H 18 8 + 0 ≤ 0 := q.2.1
    omega
  · rw [e 23 x (by omega)]
    by_cases c : H 23 x = 0
    · exact c
    · obtain ⟨i, i0, i1, -⟩ := h.2.1.2.2.2.2.1 x x0 x1 c
      have q := h.2.1.2.2.1
      have q2 : H 18 8 + 0 ≤ 0 := q.2.1
      omega
  · rw [e 22 x (by omega)]; exact (h.2.1.2.2.2.2.2.2.1 x).1
  · rw [e 23 x (by omega)]; exact (h.2.1.2.2.2.2.2.2.1 x).2
  · rw [← h.2.2 j hj]
    unfold zB8
    rw [e 19 _ (by omega)]
theorem iCh.of {β : Int → Int} {b : Int} (e : ∀ q i, (q = 19 ∨ q = 20 ∨ q = 22) → G q i = H q i) : iCh β G b ↔ iCh β H b := by
  unfold iCh
  rw [e 22 b (by omega)]
  constructor
  · rintro ⟨u1, u2, j, j0, j1, j2⟩
    rw [e 19 _ (by omega), e 20 _ (by omega)] at j2
    exact ⟨u1, u2, j, j0, j1, j2⟩
  · rintro ⟨u1, u2, j, j0, j1, j2⟩
    refine ⟨u1, u2, j, j0, j1, ?_⟩
    rw [e 19 _ (by omega), e 20 _ (by omega)]
    exact j2
/-- Image.listChanged -/
theorem c_list {B : Int} {β : Int → Int} (h : fS H B 0 [] β L H) (hB : 25 ≤ B ∧ B ≤ 768) (l30 : L 30 = 24) (l31 : L 31 = 192) (few : cN (iCh β H) B ≤ 24)
    (hQ : ∀ H', (∀ q i, q ≠ 30 → q ≠ 31 → H' q i = H q i) → (∀ b, 25 ≤ b → b < B → iCh β H b → H' 30 (cN (iCh β H) b) = b ∧ ∀ j, 0 ≤ j → j < 8 → H' 31 (8 * cN (iCh β H) b + j) = H 19 (8 * b + j)) → Qr (cN (iCh β H) B) (t, L, H')) : zEnds 80 93 0 [(25, 18), (10, 30), (11, 31), (9, 0), (9, 0)] [] (t, L, H) Qr Qt := by
  have l19 := h.1.2.1
  have key : ∀ (n : Nat) (b : Int) (G : zHp), 25 ≤ b → b + n = B → (∀ q i, q ≠ 30 → q ≠ 31 → G q i = H q i) → (∀ x, 25 ≤ x → x < b → iCh β H x → G 30 (cN (iCh β H) x) = x ∧ ∀ j, 0 ≤ j → j < 8 → G 31 (8 * cN (iCh β H) x + j) = H 19 (8 * x + j)) → zEnds 80 93 6 [(25, 18), (10, 30), (11, 31), (0, cN (iCh β H) b), (0, b)] [] (t, L, G) Qr Qt := by
    intro n
    induction n with
    | zero =>
      intro b G b0 b1 e1 e2
      have e : b = B := by omega
      subst e
      exact v_93_6 ⟨fun _ => hQ G e1 e2, fun u => absurd (by show G 18 1 ≤ b; rw [e1 18 1 (by decide) (by decide), h.num]; omega) u⟩
    | succ n ih =>
      intro b G b0 b1 e1 e2
      have hG : fS G B 0 [] β L G := h.rest (fun q i hq => e1 q i (by omega) (by omega))
      have ic : iCh β G b ↔ iCh β H b := iCh.of (fun q i hq => e1 q i (by omega) (by omega))
      have mo := cN_mono (P := iCh β H) (a := b) (b := B) b0 (by omega)
      have eb : z32 (b + 1) = b + 1 := z32_id (by omega) (by omega)
      refine v_93_6 ⟨fun u => absurd u (by show ¬ G 18 1 ≤ b; rw [e1 18 1 (by decide) (by decide), h.num]; omega), fun _ => ⟨fun u => ?_, fun u => ?_⟩⟩
      · have u : L 30 ≤ cN (iCh β H) b := u
        rw [show cN (iCh β H) b = cN (iCh β H) B by omega]
        refine hQ G e1 (fun x x0 x1 hx => ?_)
        by_cases c : x < b
        · exact e2 x x0 c hx
        · have p1 := cN_mono (P := iCh β H) (a := b) (b := x) b0 (by omega)
          have p2 := cN_lt (P := iCh β H) x0 x1 hx
          omega
      · have u : ¬ L 30 ≤ cN (iCh β H) b := u
        rw [eb]
        refine i_isChanged hG (by omega) (fun y => ⟨fun v => absurd v (by decide), fun _ => ⟨by show 0 ≤ cN (iCh β H) b ∧ cN (iCh β H) b < L 30; omega, ?_⟩⟩) (fun y => ⟨fun _ => ?_, fun v => absurd rfl v⟩)
        · have y := ic.mp y
          have p2 := cN_y b0 y
          have e8 : z32 (8 * b) = 8 * b := z32_id (by omega) (by omega)
          have e9 : z32 (8 * cN (iCh β H) b) = 8 * cN (iCh β H) b := z32_id (by omega) (by omega)
          rw [e9]
          refine v_82 ⟨⟨by decide, by rw [e8]; omega, by omega, by rw [e8]; show 8 * b + 8 ≤ L 19; omega, by show 8 * cN (iCh β H) b + 8 ≤ L 31; omega, by decide⟩, ?_⟩
          rw [z32_id (x := cN (iCh β H) b + 1) (by omega) (by omega), e8, ← p2]
          refine ih (b + 1) _ (by omega) (by omega) (fun q i q1 q2 => ?_) (fun x x0 x1 hx => ?_)
          · show zcpy (zupd G 30 _ b) 19 (8 * b) 31 _ 8 q i = _
            unfold zcpy
            rw [if_neg (fun z => q2 z.1), zupd_ne q1]
            exact e1 q i q1 q2
          · show zcpy (zupd G 30 (cN (iCh β H) b) b) 19 (8 * b) 31 (8 * cN (iCh β H) b) 8 30 _ = x ∧ ∀ j, 0 ≤ j → j < 8 → zcpy (zupd G 30 (cN (iCh β H) b) b) 19 (8 * b) 31 (8 * cN (iCh β H) b) 8 31 _ = _
            by_cases c : x = b
            · subst c
              refine ⟨?_, fun j j0 j1 => ?_⟩
              · unfold zcpy
                rw [if_neg (by omega), zupd_at]
              · unfold zcpy
                rw [if_pos ⟨rfl, by omega, by omega⟩, zupd_ne (by decide), e1 19 _ (by decide) (by decide)]
                congr 1
                omega
            · obtain ⟨a1, a2⟩ := e2 x x0 (by omega) hx
              have p3 := cN_lt (P := iCh β H) (a := x) (b := b) x0 (by omega) hx
              refine ⟨?_, fun j j0 j1 => ?_⟩
              · unfold zcpy
                rw [if_neg (by omega), zupd_no (by omega)]
                exact a1
              · unfold zcpy
                rw [if_neg (by omega), zupd_ne (by decide)]
                exact a2 j j0 j1
        · have y : ¬ iCh β H b := fun z => y (ic.mpr z)
          rw [← cN_n b0 y]
          refine ih (b + 1) G (by omega) (by omega) e1 (fun x x0 x1 hx => ?_)
          by_cases c : x = b
          · exact absurd (c ▸ hx) y
          · exact e2 x x0 (by omega) hx
  have q := key (B - 25).toNat 25 H (by omega) (by omega) (fun _ _ _ _ => rfl) (fun x x0 x1 _ => by omega)
  rw [cN_0] at q
  exact v_93 q
/-- DiskPoolModel.commits: its list -/
theorem m_list {A : aSt} (h : mA d w r M A L M) (ha : aN (r * gGr d w * (w - 1)) A.1) (hB : 96 ≤ r * gGr d w * (w - 1) ∧ r * gGr d w * (w - 1) ≤ 768) (few : cN (mCh (r * gGr d w * (w - 1)) A (M 43)) (r * gGr d w * (w - 1)) ≤ 24)
    (hQ : ∀ M', (∀ q i, q ≠ 51 → q ≠ 52 → M' q i = M q i) → (∀ b, 25 ≤ b → b < r * gGr d w * (w - 1) → mCh (r * gGr d w * (w - 1)) A (M 43) b → M' 51 (cN (mCh (r * gGr d w * (w - 1)) A (M 43)) b) = b ∧ ∀ k, 0 ≤ k → k < 64 → M' 52 (64 * cN (mCh (r * gGr d w * (w - 1)) A (M 43)) b + k) = mBy (r * gGr d w * (w - 1)) A (M 43) b k) → (∀ i, ¬ (0 ≤ i ∧ i < cN (mCh (r * gGr d w * (w - 1)) A (M 43)) (r * gGr d w * (w - 1))) → M' 51 i = M 51 i) → (∀ i, ¬ (0 ≤ i ∧ i < 64 * cN (mCh (r * gGr d w * (w - 1)) A (M 43)) (r * gGr d w * (w - 1))) → M' 52 i = M 52 i) → zEnds 118 204 75 [(29, 35), (0, cN (mCh (r * gGr d w * (w - 1)) A (M 43)) (r * gGr d w * (w - 1))), (0, 1), (0, 0)] [] (t, L, M') Qr Qt) : zEnds 118 204 0 [(29, 35), (9, 0), (9, 0), (9, 0)] [] (t, L, M) Qr Qt := by
  have l51 : L 51 = 48 := h.1.2.2.1.2.2.2.2.2.2.1
  have l52 : L 52 = 3072 := h.1.2.2.1.2.2.2.2.2.2.2.1
  generalize eP : mCh (r * gGr d w * (w - 1)) A (M 43) = P at few hQ
  generalize eB : r * gGr d w * (w - 1) = B at ha hB few hQ eP
  have hmA : ∀ K : zHp, (∀ q i, q ≠ 51 → q ≠ 52 → K q i = M q i) → mA d w r K A L K ∧ K 43 = M 43 := fun K e => ⟨⟨h.1.of (fun i _ => e 35 i (by decide) (by decide)) (fun i => e 36 i (by decide) (by decide)), fun j j0 j1 => (e 45 j (by decide) (by decide)).trans (h.2.1 j j0 j1), fun j j0 j1 => (e 46 j (by decide) (by decide)).trans (h.2.2.1 j j0 j1), fun j j0 j1 => (e 47 j (by decide) (by decide)).trans (h.2.2.2.1 j j0 j1), fun _ _ _ _ _ => rfl⟩, funext (fun i => e 43 i (by decide) (by decide))⟩
  have key : ∀ (n : Nat) (b : Int) (K : zHp), 25 ≤ b → b + n = B → (∀ q i, q ≠ 51 → q ≠ 52 → K q i = M q i) → (∀ x, 25 ≤ x → x < b → P x → K 51 (cN P x) = x ∧ ∀ k, 0 ≤ k → k < 64 → K 52 (64 * cN P x + k) = mBy B A (M 43) x k) → (∀ i, ¬ (0 ≤ i ∧ i < cN P b) → K 51 i = M 51 i) → (∀ i, ¬ (0 ≤ i ∧ i < 64 * cN P b) → K 52 i = M 52 i) → zEnds 118 204 5 [(29, 35), (0, cN P b), (0, b), (9, 0)] [] (t, L, K) Qr Qt := by
    intro n
    induction n with
    | zero =>
      intro b K b0 b1 e1 e2 e3 e4
      have e : b = B := by omega
      subst e
      refine v_204_5 (m_blocks (hmA K e1).1.1 ?_)
      rw [eB]
      exact ⟨fun _ => hQ K e1 e2 e3 e4, fun u => absurd (Int.le_refl _) u⟩
    | succ n ih =>
      intro b K b0 b1 e1 e2 e3 e4
      obtain ⟨mK, m43⟩ := hmA K e1
      have mo := cN_mono (P := P) (a := b) (b := B) b0 (by omega)
      have eb : z32 (b + 1) = b + 1 := z32_id (by omega) (by omega)
      refine v_204_5 (m_blocks mK.1 ?_)
      rw [eB, eb]
      refine ⟨fun u => by omega, fun _ => m_isChanged mK (by rw [eB]; exact ha) (by omega) (fun y => ⟨fun _ => ⟨by show 0 ≤ cN P b ∧ cN P b < L 51; omega, ?_⟩, fun v => absurd (by decide) v⟩) (fun y => ⟨fun v => absurd rfl v, fun _ => ?_⟩)⟩
      · rw [eB, m43, eP] at y
        have p2 := cN_y b0 y
        have mo2 := cN_mono (P := P) (a := b + 1) (b := B) (by omega) (by omega)
        have inner : ∀ (m : Nat) (k : Int) (J : zHp), 0 ≤ k → k + m = 64 → (∀ q i, q ≠ 51 → q ≠ 52 → J q i = M q i) → (∀ x, 25 ≤ x → x < b → P x → J 51 (cN P x) = x ∧ ∀ k, 0 ≤ k → k < 64 → J 52 (64 * cN P x + k) = mBy B A (M 43) x k) → J 51 (cN P b) = b → (∀ i, 0 ≤ i → i < k → J 52 (64 * cN P b + i) = mBy B A (M 43) b i) → (∀ i, ¬ (0 ≤ i ∧ i < cN P b + 1) → J 51 i = M 51 i) → (∀ i, ¬ (0 ≤ i ∧ i < 64 * cN P b + k) → J 52 i = M 52 i) → zEnds 118 204 33 [(29, 35), (0, cN P b), (0, b), (0, k)] [] (t, L, J) Qr Qt := by
          intro m
          induction m with
          | zero =>
            intro k J k0 k1 f1 f2 f3 f4 f5 f6
            refine v_204_33 ⟨fun _ => ?_, fun u => by omega⟩
            rw [z32_id (x := cN P b + 1) (by omega) (by omega), eb, ← p2]
            refine ih (b + 1) J (by omega) (by omega) f1 (fun x x0 x1 hx => ?_) (fun i hi => f5 i (by omega)) (fun i hi => f6 i (by omega))
            by_cases c : x = b
            · rw [c]
              exact ⟨f3, fun i i0 i1 => f4 i i0 (by omega)⟩
            · exact f2 x x0 (by omega) hx
          | succ m ihm =>
            intro k J k0 k1 f1 f2 f3 f4 f5 f6
            obtain ⟨mJ, m43J⟩ := hmA J f1
            refine v_204_33 ⟨fun u => by omega, fun _ => m_byteOf mJ (by rw [eB]; exact ha) (by omega) (by omega) ?_⟩
            have z1 : z32 (z32 (64 * cN P b) + k) = 64 * cN P b + k := by rw [z32_id (x := 64 * cN P b) (by omega) (by omega), z32_id (by omega) (by omega)]
            rw [z1]
            refine ⟨by show 0 ≤ 64 * cN P b + k ∧ 64 * cN P b + k < L 52; omega, ?_⟩
            rw [z32_id (x := k + 1) (by omega) (by omega), eB, m43J]
            refine ihm (k + 1) _ (by omega) (by omega) (fun q i q1 q2 => ?_) (fun x x0 x1 hx => ?_) ?_ (fun i i0 i1 => ?_) (fun i hi => by show zupd J 52 _ _ 51 i = _; rw [zupd_ne (by decide)]; exact f5 i hi) (fun i hi => by show zupd J 52 _ _ 52 i = _; rw [zupd_no (by omega)]; exact f6 i (by omega))
            · show zupd J 52 _ _ q i = _
              rw [zupd_ne q2]
              exact f1 q i q1 q2
            · have p3 := cN_lt (P := P) (a := x) (b := b) x0 (by omega) hx
              obtain ⟨a1, a2⟩ := f2 x x0 x1 hx
              refine ⟨?_, fun i i0 i1 => ?_⟩
              · show zupd J 52 _ _ 51 _ = _
                rw [zupd_ne (by decide)]
                exact a1
              · show zupd J 52 _ _ 52 _ = _
                rw [zupd_no (by omega)]
                exact a2 i i0 i1
            · show zupd J 52 _ _ 51 _ = _
              rw [zupd_ne (by decide)]
              exact f3
            · show zupd J 52 (64 * cN P b + k) _ 52 _ = _
              by_cases c : i = k
              · rw [c, zupd_at]
              · rw [zupd_no (by omega)]
                exact f4 i i0 (by omega)
        refine inner 64 0 _ (by decide) (by decide) (fun q i q1 q2 => ?_) (fun x x0 x1 hx => ?_) ?_ (fun i i0 i1 => by omega) (fun i hi => by show zupd K 51 _ _ 51 i = _; rw [zupd_no (by omega)]; exact e3 i (by omega)) (fun i hi => by show zupd K 51 _ _ 52 i = _; rw [zupd_ne (by decide)]; exact e4 i (by omega))
        · show zupd K 51 _ _ q i = _
          rw [zupd_ne q1]
          exact e1 q i q1 q2
        · have p3 := cN_lt (P := P) (a := x) (b := b) x0 (by omega) hx
          obtain ⟨a1, a2⟩ := e2 x x0 x1 hx
          refine ⟨?_, fun i i0 i1 => ?_⟩
          · show zupd K 51 _ _ 51 _ = _
            rw [zupd_no (by omega)]
            exact a1
          · show zupd K 51 _ _ 52 _ = _
            rw [zupd_ne (by decide)]
            exact a2 i i0 i1
        · show zupd K 51 _ _ 51 _ = _
          rw [zupd_at]
      · rw [eB, m43, eP] at y
        rw [← cN_n b0 y]
        refine ih (b + 1) K (by omega) (by omega) e1 (fun x x0 x1 hx => ?_) (fun i hi => e3 i (by rw [cN_n b0 y] at hi; exact hi)) (fun i hi => e4 i (by rw [cN_n b0 y] at hi; exact hi))
        by_cases c : x = b
        · exact absurd (c ▸ hx) y
        · exact e2 x x0 (by omega) hx
  have q := key (B - 25).toNat 25 M (by omega) (by omega) (fun _ _ _ _ => rfl) (fun x x0 x1 _ => by omega) (fun _ _ => rfl) (fun _ _ => rfl)
  rw [cN_0] at q
  exact v_204 q
/-- the list as a function -/
noncomputable def lsT (P : Int → Prop) (B i : Int) : Int := gFirst (fun b => P b ∧ cN P b = i) 25 (B - 25).toNat
noncomputable def lsM (B : Int) (A : aSt) (M : zHp) : zHp := fun q i => if q = 51 ∧ 0 ≤ i ∧ i < cN (mCh B A (M 43)) B then lsT (mCh B A (M 43)) B i else if q = 52 ∧ 0 ≤ i ∧ i < 64 * cN (mCh B A (M 43)) B then mBy B A (M 43) (lsT (mCh B A (M 43)) B (i / 64)) (i % 64) else M q i
theorem lsT_spec {P : Int → Prop} {B i : Int} (hB : 25 ≤ B) (hi : 0 ≤ i ∧ i < cN P B) : (25 ≤ lsT P B i ∧ lsT P B i < B) ∧ P (lsT P B i) ∧ cN P (lsT P B i) = i := by
  obtain ⟨b, b0, b1, b2, b3⟩ := cN_sur (P := P) (B - 25).toNat i hi.1 (by rw [show (25 : Int) + ((B - 25).toNat : Int) = B by omega]; exact hi.2)
  rcases gFirst_spec (fun b => P b ∧ cN P b = i) (B - 25).toNat 25 with u | ⟨u1, u2, u3, -⟩
  · exact absurd ⟨b2, b3⟩ (u.2 b b0 (by omega))
  · exact ⟨⟨u1, by unfold lsT; omega⟩, u3⟩
theorem lsT_at {P : Int → Prop} {B b : Int} (hB : 25 ≤ B) (hb : 25 ≤ b ∧ b < B) (h : P b) : lsT P B (cN P b) = b := by
  have a := lsT_spec (P := P) (B := B) (i := cN P b) hB ⟨(cN_mono (P := P) hb.1 (Int.le_refl b)).1, cN_lt hb.1 hb.2 h⟩
  by_cases c : lsT P B (cN P b) < b
  · have := cN_lt (P := P) a.1.1 c a.2.1
    omega
  · by_cases c2 : b < lsT P B (cN P b)
    · have := cN_lt (P := P) hb.1 c2 h
      omega
    · omega
theorem m_list2 {A : aSt} (h : mA d w r M A L M) (ha : aN (r * gGr d w * (w - 1)) A.1) (hB : 96 ≤ r * gGr d w * (w - 1) ∧ r * gGr d w * (w - 1) ≤ 768) (few : cN (mCh (r * gGr d w * (w - 1)) A (M 43)) (r * gGr d w * (w - 1)) ≤ 24)
    (hQ : zEnds 118 204 75 [(29, 35), (0, cN (mCh (r * gGr d w * (w - 1)) A (M 43)) (r * gGr d w * (w - 1))), (0, 1), (0, 0)] [] (t, L, lsM (r * gGr d w * (w - 1)) A M) Qr Qt) : zEnds 118 204 0 [(29, 35), (9, 0), (9, 0), (9, 0)] [] (t, L, M) Qr Qt := by
  refine m_list h ha hB few (fun M' e1 e2 e3 e4 => ?_)
  have e : M' = lsM (r * gGr d w * (w - 1)) A M := funext (fun q => funext (fun i => by
    unfold lsM
    by_cases c1 : q = 51 ∧ 0 ≤ i ∧ i < cN (mCh (r * gGr d w * (w - 1)) A (M 43)) (r * gGr d w * (w - 1))
    · rw [if_pos c1, c1.1]
      obtain ⟨a1, a2, a3⟩ := lsT_spec (P := mCh (r * gGr d w * (w - 1)) A (M 43)) (B := r * gGr d w * (w - 1)) (i := i) (by omega) c1.2
      have := (e2 _ a1.1 a1.2 a2).1
      rw [a3] at this
      exact this
    · rw [if_neg c1]
      by_cases c2 : q = 52 ∧ 0 ≤ i ∧ i < 64 * cN (mCh (r * gGr d w * (w - 1)) A (M 43)) (r * gGr d w * (w - 1))
      · rw [if_pos c2, c2.1]
        obtain ⟨a1, a2, a3⟩ := lsT_spec (P := mCh (r * gGr d w * (w - 1)) A (M 43)) (B := r * gGr d w * (w - 1)) (i := i / 64) (by omega) (by omega)
        have := (e2 _ a1.1 a1.2 a2).2 (i % 64) (by omega) (by omega)
        rw [a3, show 64 * (i / 64) + i % 64 = i by omega] at this
        exact this
      · rw [if_neg c2]
        by_cases q1 : q = 51
        · rw [q1]
          exact e3 i (fun z => c1 ⟨q1, z⟩)
        · by_cases q2 : q = 52
          · rw [q2]
            exact e4 i (fun z => c2 ⟨q2, z⟩)
          · exact e1 q i q1 q2))
  rw [← e] at hQ
  exact hQ
end LISTS
