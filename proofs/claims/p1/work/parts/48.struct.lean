/-! How blocks lie: what taking and giving back does to it. -/
theorem gCnt_one {P Q : Int → Prop} {x : Int} (hP : ¬ P x) (hQ : ∀ b, Q b ↔ P b ∨ b = x) : ∀ (n : Nat) (a : Int), gCnt Q a n = gCnt P a n + (if a ≤ x ∧ x < a + n then 1 else 0) := by
  intro n
  induction n with
  | zero =>
    intro a
    rw [if_neg (by omega)]
    rfl
  | succ n ih =>
    intro a
    have i := ih (a + 1)
    by_cases c : a = x
    · rw [gCnt_yes ((hQ a).mpr (Or.inr c)), gCnt_no (by rw [c]; exact hP), i, if_neg (by omega), if_pos (by omega)]
      omega
    · by_cases p : P a
      · rw [gCnt_yes ((hQ a).mpr (Or.inl p)), gCnt_yes p, i]
        by_cases e : a ≤ x ∧ x < a + ((n + 1 : Nat) : Int)
        · rw [if_pos (by omega), if_pos e]; omega
        · rw [if_neg (by omega), if_neg e]; omega
      · rw [gCnt_no (fun u => ((hQ a).mp u).elim p c), gCnt_no p, i]
        by_cases e : a ≤ x ∧ x < a + ((n + 1 : Nat) : Int)
        · rw [if_pos (by omega), if_pos e]
        · rw [if_neg (by omega), if_neg e]
/-- so many, so few -/
theorem zpigeon {f : Int → Int} {a : Int} {m : Nat} : ∀ (n : Nat), (∀ k : Int, 0 ≤ k → k < n → a ≤ f k ∧ f k < a + m) → (∀ k j : Int, 0 ≤ k → k < n → 0 ≤ j → j < n → f k = f j → k = j) → n ≤ m := by
  have key : ∀ (n : Nat), (∀ k : Int, 0 ≤ k → k < n → a ≤ f k ∧ f k < a + m) → (∀ k j : Int, 0 ≤ k → k < n → 0 ≤ j → j < n → f k = f j → k = j) → gCnt (fun b => ∃ k, 0 ≤ k ∧ k < (n : Int) ∧ f k = b) a m = n := by
    intro n
    induction n with
    | zero =>
      intro _ _
      have e : ∀ (m : Nat) (a : Int), gCnt (fun b => ∃ k, 0 ≤ k ∧ k < ((0 : Nat) : Int) ∧ f k = b) a m = 0 := by
        intro m
        induction m with
        | zero => intro a; rfl
        | succ m ih =>
          intro a
          rw [gCnt_no (P := fun b => ∃ k, 0 ≤ k ∧ k < ((0 : Nat) : Int) ∧ f k = b) (fun ⟨k, k1, k2, _⟩ => by omega)]
          exact ih (a + 1)
      exact e m a
    | succ n ih =>
      intro h1 h2
      have i := ih (fun k k1 k2 => h1 k k1 (by omega)) (fun k j k1 k2 j1 j2 e => h2 k j k1 (by omega) j1 (by omega) e)
      have hn := h1 (n : Int) (by omega) (by omega)
      rw [gCnt_one (P := fun b => ∃ k, 0 ≤ k ∧ k < (n : Int) ∧ f k = b) (Q := fun b => ∃ k, 0 ≤ k ∧ k < ((n + 1 : Nat) : Int) ∧ f k = b) (x := f n), i, if_pos hn]
      · omega
      · intro ⟨k, k1, k2, k3⟩
        have := h2 k n k1 (by omega) (by omega) (by omega) k3
        omega
      · intro b
        constructor
        · intro ⟨k, k1, k2, k3⟩
          by_cases c : k = n
          · rw [c] at k3; exact Or.inr k3.symm
          · exact Or.inl ⟨k, k1, by omega, k3⟩
        · intro u
          rcases u with ⟨k, k1, k2, k3⟩ | u
          · exact ⟨k, k1, by omega, k3⟩
          · exact ⟨n, by omega, by omega, u.symm⟩
  intro n h1 h2
  have := key n h1 h2
  have := gCnt_rg (fun b => ∃ k, 0 ≤ k ∧ k < (n : Int) ∧ f k = b) m a
  omega
def aOwn (A : aSt) : Prop := ∀ i b, 0 ≤ i → i < 64 → aIn A.1 i b → A.2.1 b = i + 1
def aJ (N : Int → Int) : Prop := ∀ i e e' b, 0 ≤ i → i < 64 → 0 ≤ e → e < N (20 * i + 2) → 0 ≤ e' → e' < N (20 * i + 2) → N (20 * i + 3 + 2 * e) ≤ b → b < N (20 * i + 3 + 2 * e) + N (20 * i + 4 + 2 * e) → N (20 * i + 3 + 2 * e') ≤ b → b < N (20 * i + 3 + 2 * e') + N (20 * i + 4 + 2 * e') → e = e'
def aU (B : Int) (A : aSt) : Prop := aN B A.1 ∧ aOwn A ∧ aJ A.1
theorem aIn_off {N N' : Int → Int} {i k b : Int} (ho : aOff N N' i) (hk : k ≠ i) (hc : N (20 * k + 2) ≤ 8) : aIn N' k b ↔ aIn N k b := by
  have e : ∀ x, 0 ≤ x → x < 20 → N' (20 * k + x) = N (20 * k + x) := fun x x1 x2 => ho _ (by omega)
  have e2 := e 2 (by omega) (by omega)
  constructor
  · intro ⟨x, x1, x2, x3, x4⟩
    rw [e2] at x2
    rw [Int.add_assoc (20 * k) 3, e (3 + 2 * x) (by omega) (by omega)] at x3 x4
    rw [Int.add_assoc (20 * k) 4, e (4 + 2 * x) (by omega) (by omega)] at x4
    exact ⟨x, x1, x2, by rw [Int.add_assoc]; exact x3, by rw [Int.add_assoc (20 * k) 3, Int.add_assoc (20 * k) 4]; exact x4⟩
  · intro ⟨x, x1, x2, x3, x4⟩
    refine ⟨x, x1, by rw [e2]; exact x2, ?_, ?_⟩
    · rw [Int.add_assoc (20 * k) 3, e (3 + 2 * x) (by omega) (by omega), ← Int.add_assoc]; exact x3
    · rw [Int.add_assoc (20 * k) 3, e (3 + 2 * x) (by omega) (by omega), Int.add_assoc (20 * k) 4, e (4 + 2 * x) (by omega) (by omega), ← Int.add_assoc, ← Int.add_assoc]; exact x4
/-- two stretches of extents -/
theorem aBk_split {N : Int → Int} {i : Int} : ∀ (m m' : Nat) (e k : Int), 0 ≤ k → (∀ x, e ≤ x → x < e + m → 0 ≤ N (20 * i + 4 + 2 * x)) → aBk N i (m + m') e k = if k < gSum (fun e => N (20 * i + 4 + 2 * e)) e m then aBk N i m e k else aBk N i m' (e + m) (k - gSum (fun e => N (20 * i + 4 + 2 * e)) e m) := by
  intro m
  induction m with
  | zero =>
    intro m' e k k1 _
    rw [if_neg (by show ¬ k < 0; omega)]
    show aBk N i (0 + m') e k = aBk N i m' (e + 0) (k - 0)
    rw [Nat.zero_add, Int.add_zero, Int.sub_zero]
  | succ m ih =>
    intro m' e k k1 hx
    have hl := hx e (by omega) (by omega)
    rw [show m + 1 + m' = (m + m') + 1 by omega]
    show (if k < N (20 * i + 4 + 2 * e) then N (20 * i + 3 + 2 * e) + k else aBk N i (m + m') (e + 1) (k - N (20 * i + 4 + 2 * e))) = if k < N (20 * i + 4 + 2 * e) + gSum (fun e => N (20 * i + 4 + 2 * e)) (e + 1) m then (if k < N (20 * i + 4 + 2 * e) then N (20 * i + 3 + 2 * e) + k else aBk N i m (e + 1) (k - N (20 * i + 4 + 2 * e))) else aBk N i m' (e + ((m + 1 : Nat) : Int)) (k - (N (20 * i + 4 + 2 * e) + gSum (fun e => N (20 * i + 4 + 2 * e)) (e + 1) m))
    by_cases c : k < N (20 * i + 4 + 2 * e)
    · rw [if_pos c]
      have gn : ∀ (n : Nat) (a : Int), (∀ x, a ≤ x → x < a + n → 0 ≤ N (20 * i + 4 + 2 * x)) → 0 ≤ gSum (fun e => N (20 * i + 4 + 2 * e)) a n := by
        intro n
        induction n with
        | zero => intro a _; exact Int.le_refl 0
        | succ n ih2 =>
          intro a h
          have h1 := h a (by omega) (by omega)
          have h2 := ih2 (a + 1) (fun x x1 x2 => h x (by omega) (by omega))
          show 0 ≤ N (20 * i + 4 + 2 * a) + gSum (fun e => N (20 * i + 4 + 2 * e)) (a + 1) n
          omega
      have g := gn m (e + 1) (fun x x1 x2 => hx x (by omega) (by omega))
      rw [if_pos (by omega), if_pos c]
    · rw [if_neg c, ih m' (e + 1) (k - N (20 * i + 4 + 2 * e)) (by omega) (fun x x1 x2 => hx x (by omega) (by omega))]
      by_cases c2 : k - N (20 * i + 4 + 2 * e) < gSum (fun e => N (20 * i + 4 + 2 * e)) (e + 1) m
      · rw [if_pos c2, if_pos (by omega), if_neg c]
      · rw [if_neg c2, if_neg (by omega), show e + 1 + (m : Int) = e + ((m + 1 : Nat) : Int) by omega, Int.sub_sub]
theorem aBk_congr {N N' : Int → Int} {i : Int} : ∀ (m : Nat) (e k : Int), (∀ x, e ≤ x → x < e + m → N' (20 * i + 3 + 2 * x) = N (20 * i + 3 + 2 * x) ∧ N' (20 * i + 4 + 2 * x) = N (20 * i + 4 + 2 * x)) → aBk N' i m e k = aBk N i m e k := by
  intro m
  induction m with
  | zero => intro e k _; rfl
  | succ m ih =>
    intro e k h
    have h0 := h e (by omega) (by omega)
    show (if k < N' (20 * i + 4 + 2 * e) then N' (20 * i + 3 + 2 * e) + k else aBk N' i m (e + 1) (k - N' (20 * i + 4 + 2 * e))) = (if k < N (20 * i + 4 + 2 * e) then N (20 * i + 3 + 2 * e) + k else aBk N i m (e + 1) (k - N (20 * i + 4 + 2 * e)))
    rw [h0.1, h0.2, ih (e + 1) _ (fun x x1 x2 => h x (by omega) (by omega))]
theorem aBlk_off {N N' : Int → Int} {i k x : Int} (ho : aOff N N' i) (hk : k ≠ i) (hc : 0 ≤ N (20 * k + 2) ∧ N (20 * k + 2) ≤ 8) : aBlk N' k x = aBlk N k x := by
  unfold aBlk
  rw [ho (20 * k + 2) (by omega)]
  exact aBk_congr _ _ _ (fun y y1 y2 => ⟨ho _ (by omega), ho _ (by omega)⟩)
theorem aTot_off {N N' : Int → Int} {i k : Int} (ho : aOff N N' i) (hk : k ≠ i) (hc : 0 ≤ N (20 * k + 2) ∧ N (20 * k + 2) ≤ 8) : aTot N' k = aTot N k := by
  unfold aTot
  rw [ho (20 * k + 2) (by omega)]
  exact gSum_congr _ _ (fun y y1 y2 => ho _ (by omega))
theorem aBk_inj {B : Int} {N : Int → Int} {i : Int} (hi : 0 ≤ i ∧ i < 64) (hJ : aJ N) : ∀ (m : Nat) (e k k' : Int), 0 ≤ e → e + m = N (20 * i + 2) → 0 ≤ k → k < gSum (fun e => N (20 * i + 4 + 2 * e)) e m → 0 ≤ k' → k' < gSum (fun e => N (20 * i + 4 + 2 * e)) e m → aBk N i m e k = aBk N i m e k' → k = k' := by
  intro m
  induction m with
  | zero =>
    intro e k k' e1 e2 k1 k2
    have k2 : k < 0 := k2
    omega
  | succ m ih =>
    intro e k k' e1 e2 k1 k2 k1' k2' he
    have k2 : k < N (20 * i + 4 + 2 * e) + gSum (fun e => N (20 * i + 4 + 2 * e)) (e + 1) m := k2
    have k2' : k' < N (20 * i + 4 + 2 * e) + gSum (fun e => N (20 * i + 4 + 2 * e)) (e + 1) m := k2'
    have he : (if k < N (20 * i + 4 + 2 * e) then N (20 * i + 3 + 2 * e) + k else aBk N i m (e + 1) (k - N (20 * i + 4 + 2 * e))) = (if k' < N (20 * i + 4 + 2 * e) then N (20 * i + 3 + 2 * e) + k' else aBk N i m (e + 1) (k' - N (20 * i + 4 + 2 * e))) := he
    by_cases c : k < N (20 * i + 4 + 2 * e)
    · rw [if_pos c] at he
      by_cases c' : k' < N (20 * i + 4 + 2 * e)
      · rw [if_pos c'] at he; omega
      · rw [if_neg c'] at he
        obtain ⟨x, x1, x2, x3, x4⟩ := aBk_in (N := N) (i := i) m (e + 1) (k' - N (20 * i + 4 + 2 * e)) (by omega) (by omega) (by omega) (by omega)
        have := hJ i e x _ hi.1 hi.2 e1 (by omega) (by omega) x2 (by rw [← he]; omega) (by rw [← he]; omega) x3 x4
        omega
    · rw [if_neg c] at he
      by_cases c' : k' < N (20 * i + 4 + 2 * e)
      · rw [if_pos c'] at he
        obtain ⟨x, x1, x2, x3, x4⟩ := aBk_in (N := N) (i := i) m (e + 1) (k - N (20 * i + 4 + 2 * e)) (by omega) (by omega) (by omega) (by omega)
        have := hJ i e x _ hi.1 hi.2 e1 (by omega) (by omega) x2 (by rw [he]; omega) (by rw [he]; omega) x3 x4
        omega
      · rw [if_neg c'] at he
        have := ih (e + 1) _ _ (by omega) (by omega) (by omega) (by omega) (by omega) (by omega) he
        omega
theorem aBlk_inj {B : Int} {N : Int → Int} {i k k' : Int} (hi : 0 ≤ i ∧ i < 64) (ha : aI B N i) (hJ : aJ N) (hk : 0 ≤ k ∧ k < aTot N i) (hk' : 0 ≤ k' ∧ k' < aTot N i) (he : aBlk N i k = aBlk N i k') : k = k' := by
  have hc := ha.2.2.1
  exact aBk_inj (B := B) hi hJ (N (20 * i + 2)).toNat 0 k k' (by omega) (by omega) hk.1 hk.2 hk'.1 hk'.2 he
theorem gSum_nn {f : Int → Int} : ∀ (n : Nat) (a : Int), (∀ x, a ≤ x → x < a + n → 0 ≤ f x) → 0 ≤ gSum f a n := by
  intro n
  induction n with
  | zero => intro a _; exact Int.le_refl 0
  | succ n ih =>
    intro a h
    have h1 := h a (by omega) (by omega)
    have h2 := ih (a + 1) (fun x x1 x2 => h x (by omega) (by omega))
    show 0 ≤ f a + gSum f (a + 1) n
    omega
theorem aTot_le {B : Int} {N : Int → Int} {i : Int} (hi : 0 ≤ i ∧ i < 64) (ha : aI B N i) (hJ : aJ N) (hB : 59 ≤ B) : 0 ≤ aTot N i ∧ aTot N i ≤ B - 59 := by
  have hc := ha.2.2.1
  have h0 : 0 ≤ aTot N i := gSum_nn _ _ (fun x x1 x2 => by have := ha.2.2.2 x x1 (by omega); omega)
  refine ⟨h0, ?_⟩
  have := zpigeon (f := aBlk N i) (a := 59) (m := (B - 59).toNat) (aTot N i).toNat (fun k k1 k2 => by
    have := aIn_rg ha (aBlk_in ha (k := k) (by omega))
    omega) (fun k j k1 k2 j1 j2 e => aBlk_inj hi ha hJ (by omega) (by omega) e)
  omega
/-- what taking a block does -/
theorem aTake_spec {B i : Int} {A A' : aSt} (h : aU B A) (hi : 0 ≤ i ∧ i < 64) (ht : aTake B A i = some A') : ∃ b, (59 ≤ b ∧ b < B ∧ ¬ 0 < A.2.1 b) ∧ A'.2.1 = bU A.2.1 b (i + 1) ∧ A'.2.2 = bZ A.2.2 b ∧ (∀ x, aIn A'.1 i x ↔ aIn A.1 i x ∨ x = b) ∧ (∀ k, 0 ≤ k → k < aTot A.1 i → aBlk A'.1 i k = aBlk A.1 i k) ∧ aBlk A'.1 i (aTot A.1 i) = b ∧ aU B A' := by
  obtain ⟨ha', hs', hk', htot', hoff⟩ := aTake_N h.1 hi ht
  obtain ⟨ha, hO, hJ⟩ := h
  obtain ⟨N, O, W⟩ := A
  have hJ : aJ N := hJ
  have hA : aI B N i := ha i hi.1 hi.2
  have hc := hA.2.2.1
  have hnn : ∀ x, 0 ≤ x → x < N (20 * i + 2) → 0 ≤ N (20 * i + 4 + 2 * x) := fun x x1 x2 => by have := hA.2.2.2 x x1 x2; omega
  have fin : ∀ b, (59 ≤ b ∧ b < B ∧ ¬ 0 < O b) → A'.2.1 = bU O b (i + 1) → A'.2.2 = bZ W b → (∀ x, aIn A'.1 i x ↔ aIn N i x ∨ x = b) → (∀ k, 0 ≤ k → k < aTot N i → aBlk A'.1 i k = aBlk N i k) → aBlk A'.1 i (aTot N i) = b → aJ A'.1 → ∃ b, (59 ≤ b ∧ b < B ∧ ¬ 0 < O b) ∧ A'.2.1 = bU O b (i + 1) ∧ A'.2.2 = bZ W b ∧ (∀ x, aIn A'.1 i x ↔ aIn N i x ∨ x = b) ∧ (∀ k, 0 ≤ k → k < aTot N i → aBlk A'.1 i k = aBlk N i k) ∧ aBlk A'.1 i (aTot N i) = b ∧ aU B A' := by
    intro b b1 b2 b3 b4 b5 b6 b7
    refine ⟨b, b1, b2, b3, b4, b5, b6, ha', fun k x k0 k1 hx => ?_, b7⟩
    rw [b2]
    by_cases c : k = i
    · rw [c] at hx ⊢
      rcases (b4 x).mp hx with u | u
      · have := hO i x hi.1 hi.2 u
        dsimp only at this
        by_cases cx : x = b
        · rw [cx, bU_at]
        · rw [bU_ne cx]; exact this
      · rw [u, bU_at]
    · have hx := (aIn_off hoff c (ha k k0 k1).2.2.1.2).mp hx
      have := hO k x k0 k1 hx
      dsimp only at this
      rw [bU_ne (fun u => b1.2.2 (by rw [← u, this]; omega))]
      exact this
  have hJo : ∀ N' : Int → Int, aOff N N' i → (∀ e e' b, 0 ≤ e → e < N' (20 * i + 2) → 0 ≤ e' → e' < N' (20 * i + 2) → N' (20 * i + 3 + 2 * e) ≤ b → b < N' (20 * i + 3 + 2 * e) + N' (20 * i + 4 + 2 * e) → N' (20 * i + 3 + 2 * e') ≤ b → b < N' (20 * i + 3 + 2 * e') + N' (20 * i + 4 + 2 * e') → e = e') → aJ N' := by
    intro N' ho hI k e e' b k0 k1 e1 e2 e1' e2' q1 q2 q3 q4
    by_cases c : k = i
    · rw [c] at e2 e2' q1 q2 q3 q4
      exact hI e e' b e1 e2 e1' e2' q1 q2 q3 q4
    · have hck := (ha k k0 k1).2.2.1.2
      dsimp only at hck
      rw [ho (20 * k + 2) (by omega)] at e2 e2'
      rw [ho (20 * k + 3 + 2 * e) (by omega)] at q1 q2
      rw [ho (20 * k + 4 + 2 * e) (by omega)] at q2
      rw [ho (20 * k + 3 + 2 * e') (by omega)] at q3 q4
      rw [ho (20 * k + 4 + 2 * e') (by omega)] at q4
      exact hJ k e e' b k0 k1 e1 e2 e1' e2' q1 q2 q3 q4
  unfold aTake at ht
  by_cases g : aGrow B (N, O, W) i
  · rw [if_pos g] at ht
    have ht := (Option.some.inj ht).symm
    obtain ⟨g1, g2, g3, g4⟩ := g
    dsimp only at g1 g2 g3 g4 ht
    have hx := hA.2.2.2 (N (20 * i + 2) - 1) (by omega) (by omega)
    have hnb : ∀ x, 0 ≤ x → x < N (20 * i + 2) → ¬ (N (20 * i + 3 + 2 * x) ≤ N (20 * i + 3 + 2 * (N (20 * i + 2) - 1)) + N (20 * i + 4 + 2 * (N (20 * i + 2) - 1)) ∧ N (20 * i + 3 + 2 * (N (20 * i + 2) - 1)) + N (20 * i + 4 + 2 * (N (20 * i + 2) - 1)) < N (20 * i + 3 + 2 * x) + N (20 * i + 4 + 2 * x)) := fun x x1 x2 u => g4 (by
      have := hO i _ hi.1 hi.2 ⟨x, x1, x2, u.1, u.2⟩
      dsimp only at this
      rw [this]; omega)
    refine fin _ ⟨by omega, g3, g4⟩ (by rw [ht]) (by rw [ht]) ?_ ?_ ?_ ?_
    · intro x
      rw [ht]
      constructor
      · intro ⟨e, e1, e2, e3, e4⟩
        dsimp only at e2 e3 e4
        rw [bU_ne (by omega)] at e2 e3
        by_cases c : e = N (20 * i + 2) - 1
        · rw [c] at e3 e4
          rw [bU_at, bU_ne (by omega)] at e4
          by_cases c2 : x = N (20 * i + 3 + 2 * (N (20 * i + 2) - 1)) + N (20 * i + 4 + 2 * (N (20 * i + 2) - 1))
          · exact Or.inr c2
          · exact Or.inl ⟨N (20 * i + 2) - 1, by omega, by omega, e3, by omega⟩
        · rw [bU_ne (by omega), bU_ne (by omega)] at e4
          exact Or.inl ⟨e, e1, e2, e3, e4⟩
      · intro u
        rcases u with ⟨e, e1, e2, e3, e4⟩ | u
        · refine ⟨e, e1, ?_, ?_, ?_⟩
          · dsimp only; rw [bU_ne (by omega)]; exact e2
          · dsimp only; rw [bU_ne (by omega)]; exact e3
          · dsimp only
            rw [bU_ne (i := 20 * i + 4 + 2 * (N (20 * i + 2) - 1)) (j := 20 * i + 3 + 2 * e) (by omega)]
            by_cases c : e = N (20 * i + 2) - 1
            · rw [c, bU_at]; rw [c] at e4; omega
            · rw [bU_ne (by omega)]; exact e4
        · refine ⟨N (20 * i + 2) - 1, by omega, ?_, ?_, ?_⟩
          · dsimp only; rw [bU_ne (by omega)]; omega
          · dsimp only; rw [bU_ne (by omega)]; omega
          · dsimp only; rw [bU_at, bU_ne (by omega)]; omega
    · intro k k0 k1
      rw [aTot_last g1] at k1
      unfold aBlk
      rw [ht]
      dsimp only
      rw [bU_ne (j := 20 * i + 2) (by omega), show (N (20 * i + 2)).toNat = (N (20 * i + 2) - 1).toNat + 1 by omega, aBk_split _ _ _ _ k0 (fun x x1 x2 => by rw [bU_ne (by omega)]; exact hnn x x1 (by omega)), aBk_split _ _ _ _ k0 (fun x x1 x2 => hnn x x1 (by omega))]
      have eg : gSum (fun e => bU N (20 * i + 4 + 2 * (N (20 * i + 2) - 1)) (N (20 * i + 4 + 2 * (N (20 * i + 2) - 1)) + 1) (20 * i + 4 + 2 * e)) 0 (N (20 * i + 2) - 1).toNat = gSum (fun e => N (20 * i + 4 + 2 * e)) 0 (N (20 * i + 2) - 1).toNat := gSum_congr _ _ (fun x x1 x2 => bU_ne (by omega))
      rw [eg, aBk_congr (N := N) (N' := bU N (20 * i + 4 + 2 * (N (20 * i + 2) - 1)) (N (20 * i + 4 + 2 * (N (20 * i + 2) - 1)) + 1)) (N (20 * i + 2) - 1).toNat 0 k (fun x x1 x2 => ⟨bU_ne (by omega), bU_ne (by omega)⟩)]
      by_cases c : k < gSum (fun e => N (20 * i + 4 + 2 * e)) 0 (N (20 * i + 2) - 1).toNat
      · rw [if_pos c, if_pos c]
      · rw [if_neg c, if_neg c]
        rw [show (0 : Int) + (((N (20 * i + 2) - 1).toNat : Nat) : Int) = N (20 * i + 2) - 1 by omega]
        unfold aBk
        rw [bU_at, bU_ne (by omega), if_pos (by omega), if_pos (by omega)]
    · rw [aTot_last g1]
      unfold aBlk
      rw [ht]
      dsimp only
      have gn := gSum_nn (f := fun e => N (20 * i + 4 + 2 * e)) (N (20 * i + 2) - 1).toNat 0 (fun x x1 x2 => hnn x x1 (by omega))
      have eg : gSum (fun e => bU N (20 * i + 4 + 2 * (N (20 * i + 2) - 1)) (N (20 * i + 4 + 2 * (N (20 * i + 2) - 1)) + 1) (20 * i + 4 + 2 * e)) 0 (N (20 * i + 2) - 1).toNat = gSum (fun e => N (20 * i + 4 + 2 * e)) 0 (N (20 * i + 2) - 1).toNat := gSum_congr _ _ (fun x x1 x2 => bU_ne (by omega))
      rw [bU_ne (j := 20 * i + 2) (by omega), show (N (20 * i + 2)).toNat = (N (20 * i + 2) - 1).toNat + 1 by omega, aBk_split _ _ _ _ (by omega) (fun x x1 x2 => by rw [bU_ne (by omega)]; exact hnn x x1 (by omega)), eg, if_neg (by omega), show (0 : Int) + (((N (20 * i + 2) - 1).toNat : Nat) : Int) = N (20 * i + 2) - 1 by omega]
      unfold aBk
      rw [bU_at, bU_ne (by omega), if_pos (by omega)]
      omega
    · rw [ht] at hoff ⊢
      dsimp only at hoff ⊢
      refine hJo _ hoff (fun e e' b e1 e2 e1' e2' q1 q2 q3 q4 => ?_)
      rw [bU_ne (by omega)] at e2 e2' q1 q3
      rw [bU_ne (j := 20 * i + 3 + 2 * e) (by omega)] at q2
      rw [bU_ne (j := 20 * i + 3 + 2 * e') (by omega)] at q4
      have n1 := hnb e e1 e2
      have n2 := hnb e' e1' e2'
      by_cases c : e = N (20 * i + 2) - 1
      · by_cases c' : e' = N (20 * i + 2) - 1
        · omega
        · rw [c] at q1 q2
          rw [bU_at] at q2
          rw [bU_ne (by omega)] at q4
          by_cases cb : b = N (20 * i + 3 + 2 * (N (20 * i + 2) - 1)) + N (20 * i + 4 + 2 * (N (20 * i + 2) - 1))
          · exact absurd ⟨by omega, by omega⟩ n2
          · rw [c]
            exact hJ i (N (20 * i + 2) - 1) e' b hi.1 hi.2 (by omega) (by omega) e1' e2' q1 (by omega) q3 q4
      · rw [bU_ne (by omega)] at q2
        by_cases c' : e' = N (20 * i + 2) - 1
        · rw [c'] at q3 q4
          rw [bU_at] at q4
          by_cases cb : b = N (20 * i + 3 + 2 * (N (20 * i + 2) - 1)) + N (20 * i + 4 + 2 * (N (20 * i + 2) - 1))
          · exact absurd ⟨by omega, by omega⟩ n1
          · rw [c']
            exact hJ i e (N (20 * i + 2) - 1) b hi.1 hi.2 e1 e2 (by omega) (by omega) q1 q2 q3 (by omega)
        · rw [bU_ne (by omega)] at q4
          exact hJ i e e' b hi.1 hi.2 e1 e2 e1' e2' q1 q2 q3 q4
  · rw [if_neg g] at ht
    by_cases c : aLeast B O = -1 ∨ 8 ≤ N (20 * i + 2)
    · rw [if_pos c] at ht; cases ht
    · rw [if_neg c] at ht
      have ht := (Option.some.inj ht).symm
      have c1 := aLeast_rg (B := B) (O := O) (fun u => c (Or.inl u))
      have c2 : N (20 * i + 2) < 8 := by omega
      dsimp only at ht
      generalize aLeast B O = b at c1 ht
      have q : ∀ j, j ≠ 20 * i + 2 → j ≠ 20 * i + 3 + 2 * N (20 * i + 2) → j ≠ 20 * i + 4 + 2 * N (20 * i + 2) → bU (bU (bU N (20 * i + 2) (N (20 * i + 2) + 1)) (20 * i + 3 + 2 * N (20 * i + 2)) b) (20 * i + 4 + 2 * N (20 * i + 2)) 1 j = N j := fun j j1 j2 j3 => by rw [bU_ne j3, bU_ne j2, bU_ne j1]
      have hN2 : bU (bU (bU N (20 * i + 2) (N (20 * i + 2) + 1)) (20 * i + 3 + 2 * N (20 * i + 2)) b) (20 * i + 4 + 2 * N (20 * i + 2)) 1 (20 * i + 2) = N (20 * i + 2) + 1 := by rw [bU_ne (by omega), bU_ne (by omega), bU_at]
      have hN3 : bU (bU (bU N (20 * i + 2) (N (20 * i + 2) + 1)) (20 * i + 3 + 2 * N (20 * i + 2)) b) (20 * i + 4 + 2 * N (20 * i + 2)) 1 (20 * i + 3 + 2 * N (20 * i + 2)) = b := by rw [bU_ne (by omega), bU_at]
      have hN4 : bU (bU (bU N (20 * i + 2) (N (20 * i + 2) + 1)) (20 * i + 3 + 2 * N (20 * i + 2)) b) (20 * i + 4 + 2 * N (20 * i + 2)) 1 (20 * i + 4 + 2 * N (20 * i + 2)) = 1 := bU_at
      generalize hN' : bU (bU (bU N (20 * i + 2) (N (20 * i + 2) + 1)) (20 * i + 3 + 2 * N (20 * i + 2)) b) (20 * i + 4 + 2 * N (20 * i + 2)) 1 = N' at ht q hN2 hN3 hN4
      have hnb : ∀ x, 0 ≤ x → x < N (20 * i + 2) → ¬ (N (20 * i + 3 + 2 * x) ≤ b ∧ b < N (20 * i + 3 + 2 * x) + N (20 * i + 4 + 2 * x)) := fun x x1 x2 u => c1.2.2 (by
        have := hO i _ hi.1 hi.2 ⟨x, x1, x2, u.1, u.2⟩
        dsimp only at this
        rw [this]; omega)
      have eg : gSum (fun e => N' (20 * i + 4 + 2 * e)) 0 (N (20 * i + 2)).toNat = aTot N i := gSum_congr _ _ (fun x x1 x2 => q _ (by omega) (by omega) (by omega))
      have hnn' : ∀ x, 0 ≤ x → x < N (20 * i + 2) → 0 ≤ N' (20 * i + 4 + 2 * x) := fun x x1 x2 => by rw [q _ (by omega) (by omega) (by omega)]; exact hnn x x1 x2
      refine fin b c1 (by rw [ht]) (by rw [ht]) ?_ ?_ ?_ ?_
      · intro x
        rw [ht]
        constructor
        · intro ⟨e, e1, e2, e3, e4⟩
          dsimp only at e2 e3 e4
          rw [hN2] at e2
          by_cases ce : e = N (20 * i + 2)
          · rw [ce, hN3] at e3
            rw [ce, hN3, hN4] at e4
            exact Or.inr (by omega)
          · rw [q _ (by omega) (by omega) (by omega)] at e3
            rw [q _ (by omega) (by omega) (by omega), q _ (by omega) (by omega) (by omega)] at e4
            exact Or.inl ⟨e, e1, by omega, e3, e4⟩
        · intro u
          rcases u with ⟨e, e1, e2, e3, e4⟩ | u
          · exact ⟨e, e1, by dsimp only; rw [hN2]; omega, by dsimp only; rw [q _ (by omega) (by omega) (by omega)]; exact e3, by dsimp only; rw [q _ (by omega) (by omega) (by omega), q _ (by omega) (by omega) (by omega)]; exact e4⟩
          · exact ⟨N (20 * i + 2), by omega, by dsimp only; rw [hN2]; omega, by dsimp only; rw [hN3]; omega, by dsimp only; rw [hN3, hN4]; omega⟩
      · intro k k0 k1
        unfold aBlk
        rw [ht]
        dsimp only
        rw [hN2, show (N (20 * i + 2) + 1).toNat = (N (20 * i + 2)).toNat + 1 by omega, aBk_split _ _ _ _ k0 (fun x x1 x2 => hnn' x x1 (by omega)), eg, if_pos k1]
        exact aBk_congr _ _ _ (fun x x1 x2 => ⟨q _ (by omega) (by omega) (by omega), q _ (by omega) (by omega) (by omega)⟩)
      · unfold aBlk
        rw [ht]
        dsimp only
        have gn : 0 ≤ aTot N i := gSum_nn _ _ (fun x x1 x2 => hnn x x1 (by omega))
        rw [hN2, show (N (20 * i + 2) + 1).toNat = (N (20 * i + 2)).toNat + 1 by omega, aBk_split _ _ _ _ gn (fun x x1 x2 => hnn' x x1 (by omega)), eg, if_neg (by omega), show (0 : Int) + ((N (20 * i + 2)).toNat : Int) = N (20 * i + 2) by omega]
        unfold aBk
        rw [hN4, hN3, if_pos (by omega)]
        omega
      · rw [ht] at hoff ⊢
        dsimp only at hoff ⊢
        refine hJo _ hoff (fun e e' x e1 e2 e1' e2' q1 q2 q3 q4 => ?_)
        rw [hN2] at e2 e2'
        by_cases ce : e = N (20 * i + 2)
        · by_cases ce' : e' = N (20 * i + 2)
          · omega
          · rw [ce, hN3] at q1
            rw [ce, hN3, hN4] at q2
            rw [q _ (by omega) (by omega) (by omega)] at q3
            rw [q _ (by omega) (by omega) (by omega), q _ (by omega) (by omega) (by omega)] at q4
            exact absurd ⟨by omega, by omega⟩ (hnb e' e1' (by omega))
        · rw [q _ (by omega) (by omega) (by omega)] at q1
          rw [q _ (by omega) (by omega) (by omega), q _ (by omega) (by omega) (by omega)] at q2
          by_cases ce' : e' = N (20 * i + 2)
          · rw [ce', hN3] at q3
            rw [ce', hN3, hN4] at q4
            exact absurd ⟨by omega, by omega⟩ (hnb e e1 (by omega))
          · rw [q _ (by omega) (by omega) (by omega)] at q3
            rw [q _ (by omega) (by omega) (by omega), q _ (by omega) (by omega) (by omega)] at q4
            exact hJ i e e' x hi.1 hi.2 e1 (by omega) e1' (by omega) q1 q2 q3 q4
