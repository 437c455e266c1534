/-! Trees: ranks instead of climbs; what is left alone. -/
theorem least_of {P : Nat → Prop} (h : ∃ n, P n) : ∃ n, P n ∧ ∀ m, m < n → ¬ P m := by
  obtain ⟨n, hn⟩ := h
  induction n using Nat.strongRecOn with
  | _ n ih =>
    by_cases c : ∃ m, m < n ∧ P m
    · obtain ⟨m, m1, m2⟩ := c
      exact ih m m1 m2
    · exact ⟨n, hn, fun m m1 m2 => c ⟨m, m1, m2⟩⟩
section RANKS
variable {B : Int} {A A' : aSt} {d e i j k b : Int}
theorem aPar_of (h : aTr A) (hd : aNd A d e) : aPar A (aNo A d e) = d := by
  unfold aPar
  rcases gFirst_spec (fun d' => ∃ e', aNd A d' e' ∧ aNo A d' e' = aNo A d e) 64 0 with u | ⟨-, -, ⟨e', u2, u3⟩, -⟩
  · exact absurd ⟨e, hd, rfl⟩ (u.2 d hd.1.1 (by have := hd.1.2; omega))
  · exact (h.2.1 _ _ _ _ u2 hd u3).1
theorem aPar_rg (A : aSt) (j : Int) : aPar A j = -1 ∨ ((0 ≤ aPar A j ∧ aPar A j < 64) ∧ ∃ e, aNd A (aPar A j) e ∧ aNo A (aPar A j) e = j) := by
  unfold aPar
  rcases gFirst_spec (fun d' => ∃ e', aNd A d' e' ∧ aNo A d' e' = j) 64 0 with u | ⟨u0, u1, u2, -⟩
  · exact Or.inl u.1
  · exact Or.inr ⟨⟨u0, by omega⟩, u2⟩
theorem aUp_neg (A : aSt) : ∀ n, aUp A n (-1) = -1 := by
  intro n
  induction n with
  | zero => rfl
  | succ n ih =>
    show aUp A n (if (-1 : Int) = -1 then -1 else aPar A (-1)) = -1
    rw [if_pos rfl]; exact ih
theorem aUp_succ (A : aSt) : ∀ n y, aUp A (n + 1) y = if aUp A n y = -1 then -1 else aPar A (aUp A n y) := by
  intro n
  induction n with
  | zero => intro y; rfl
  | succ n ih =>
    intro y
    exact ih (if y = -1 then -1 else aPar A y)
theorem aUp_edge (h : aTr A) (hd : aNd A d e) (n : Nat) : aUp A (n + 1) (aNo A d e) = aUp A n d := by
  show aUp A n (if aNo A d e = -1 then -1 else aPar A (aNo A d e)) = aUp A n d
  rw [if_neg (by have := (h.1 d e hd).1; omega), aPar_of h hd]
theorem aTr_rank (h : aTr A) : ∃ ρ : Int → Nat, ∀ d e, aNd A d e → ρ d < ρ (aNo A d e) := by
  have all : ∀ j : Int, ∃ n : Nat, (0 ≤ j ∧ j < 64) → aUp A n j = -1 ∧ ∀ m, m < n → aUp A m j ≠ -1 := fun j => by
    by_cases c : 0 ≤ j ∧ j < 64
    · obtain ⟨n, h1, h2⟩ := least_of (h.2.2 j c.1 c.2)
      exact ⟨n, fun _ => ⟨h1, h2⟩⟩
    · exact ⟨0, fun u => absurd u c⟩
  refine ⟨fun j => Classical.choose (all j), fun d e hd => ?_⟩
  have jr := (h.1 d e hd).1
  have s1 := Classical.choose_spec (all (aNo A d e)) (by omega)
  have s2 := Classical.choose_spec (all d) hd.1
  show Classical.choose (all d) < Classical.choose (all (aNo A d e))
  generalize Classical.choose (all (aNo A d e)) = x at s1 ⊢
  generalize Classical.choose (all d) = y at s2 ⊢
  cases x with
  | zero =>
    have := s1.1
    have : aNo A d e = -1 := this
    omega
  | succ m =>
    have u := s1.1
    rw [aUp_edge h hd] at u
    rcases Nat.lt_or_ge m y with v | v
    · exact absurd u (s2.2 m v)
    · omega
theorem aTr_mk (h1 : ∀ d e, aNd A d e → (1 ≤ aNo A d e ∧ aNo A d e < 64) ∧ A.1 (20 * aNo A d e) ≠ 0) (h2 : ∀ d e d' e', aNd A d e → aNd A d' e' → aNo A d e = aNo A d' e' → d = d' ∧ e = e') {ρ : Int → Nat} (h3 : ∀ d e, aNd A d e → ρ d < ρ (aNo A d e)) : aTr A := by
  refine ⟨h1, h2, ?_⟩
  have key : ∀ (n : Nat) (j : Int), ρ j ≤ n → 0 ≤ j → j < 64 → ∃ m, aUp A m j = -1 := by
    intro n
    induction n with
    | zero =>
      intro j hn j0 j1
      rcases aPar_rg A j with u | ⟨-, e, u1, u2⟩
      · exact ⟨1, by show (if j = -1 then -1 else aPar A j) = -1; rw [if_neg (by omega)]; exact u⟩
      · have := h3 _ e u1
        rw [u2] at this
        omega
    | succ n ih =>
      intro j hn j0 j1
      rcases aPar_rg A j with u | ⟨u0, e, u1, u2⟩
      · exact ⟨1, by show (if j = -1 then -1 else aPar A j) = -1; rw [if_neg (by omega)]; exact u⟩
      · have := h3 _ e u1
        rw [u2] at this
        obtain ⟨m, hm⟩ := ih (aPar A j) (by omega) u0.1 u0.2
        exact ⟨m + 1, by show aUp A m (if j = -1 then -1 else aPar A j) = -1; rw [if_neg (by omega)]; exact hm⟩
  exact fun j j0 j1 => key (ρ j) j (Nat.le_refl _) j0 j1
/-- fewer entries, and one more -/
theorem aTr_add (h : aTr A) (h1 : ∀ d e, aNd A' d e → (1 ≤ aNo A' d e ∧ aNo A' d e < 64) ∧ A'.1 (20 * aNo A' d e) ≠ 0) (h2 : ∀ d e d' e', aNd A' d e → aNd A' d' e' → aNo A' d e = aNo A' d' e' → d = d' ∧ e = e') (hs : ∀ d' e', aNd A' d' e' → (aNd A d' e' ∧ aNo A' d' e' = aNo A d' e') ∨ (d' = d ∧ aNo A' d' e' = j)) (hn : ¬ ∃ n, aUp A n d = j) : aTr A' := by
  obtain ⟨ρ, hρ⟩ := aTr_rank h
  refine aTr_mk h1 h2 (ρ := fun y => @ite _ (∃ n, aUp A n y = j) (Classical.propDecidable _) (ρ y + ρ d + 1) (ρ y)) (fun d' e' u => ?_)
  show @ite _ (∃ n, aUp A n d' = j) (Classical.propDecidable _) (ρ d' + ρ d + 1) (ρ d') < @ite _ (∃ n, aUp A n (aNo A' d' e') = j) (Classical.propDecidable _) (ρ (aNo A' d' e') + ρ d + 1) (ρ (aNo A' d' e'))
  rcases hs d' e' u with ⟨v1, v2⟩ | ⟨v1, v2⟩
  · rw [v2]
    have lt := hρ d' e' v1
    by_cases c : ∃ n, aUp A n d' = j
    · have c' : ∃ n, aUp A n (aNo A d' e') = j := by
        obtain ⟨n, hn⟩ := c
        exact ⟨n + 1, by rw [aUp_edge h v1]; exact hn⟩
      rw [if_pos c, if_pos c']
      omega
    · rw [if_neg c]
      by_cases c' : ∃ n, aUp A n (aNo A d' e') = j
      · rw [if_pos c']; omega
      · rw [if_neg c']; exact lt
  · rw [v2, v1, if_neg hn, if_pos ⟨0, rfl⟩]
    omega
/-- no more entries -/
theorem aTr_sub (h : aTr A) (hs : ∀ d' e', aNd A' d' e' → aNd A d' e' ∧ aNo A' d' e' = aNo A d' e') (hk : ∀ d' e', aNd A' d' e' → A'.1 (20 * aNo A d' e') ≠ 0) : aTr A' := by
  obtain ⟨ρ, hρ⟩ := aTr_rank h
  refine aTr_mk (ρ := ρ) (fun d e u => ?_) (fun d e d' e' u v w => ?_) (fun d e u => ?_)
  · rw [(hs d e u).2]
    exact ⟨(h.1 d e (hs d e u).1).1, hk d e u⟩
  · rw [(hs d e u).2, (hs d' e' v).2] at w
    exact h.2.1 d e d' e' (hs d e u).1 (hs d' e' v).1 w
  · rw [(hs d e u).2]
    exact hρ d e (hs d e u).1
/-- a climb is short -/
theorem aUp_short (h : aTr A) {y : Int} (hy : 0 ≤ y ∧ y < 64) {n : Nat} (hn : aUp A n y ≠ -1) : n < 64 ∧ (0 ≤ aUp A n y ∧ aUp A n y < 64) := by
  obtain ⟨ρ, hρ⟩ := aTr_rank h
  have bef : ∀ m, m ≤ n → aUp A m y ≠ -1 := by
    intro m hm u
    have : ∀ k, aUp A (m + k) y = -1 := by
      intro k
      induction k with
      | zero => exact u
      | succ k ih =>
        show aUp A (m + k + 1) y = -1
        rw [aUp_succ, if_pos ih]
    have z := this (n - m)
    rw [show m + (n - m) = n by omega] at z
    exact hn z
  have rg : ∀ m, m ≤ n → 0 ≤ aUp A m y ∧ aUp A m y < 64 := by
    intro m hm
    cases m with
    | zero => exact hy
    | succ m =>
      have z := bef (m + 1) hm
      rw [aUp_succ, if_neg (bef m (by omega))] at z ⊢
      rcases aPar_rg A (aUp A m y) with u | ⟨u, -⟩
      · exact absurd u z
      · exact u
  have dec : ∀ m, m < n → ρ (aUp A (m + 1) y) < ρ (aUp A m y) := by
    intro m hm
    have z := bef (m + 1) (by omega)
    rw [aUp_succ, if_neg (bef m (by omega))] at z ⊢
    rcases aPar_rg A (aUp A m y) with u | ⟨-, e, u1, u2⟩
    · exact absurd u z
    · have := hρ _ e u1
      rw [u2] at this
      exact this
  have dec2 : ∀ k m, m + k ≤ n → ρ (aUp A (m + k) y) + k ≤ ρ (aUp A m y) := by
    intro k
    induction k with
    | zero => intro m _; exact Nat.le_refl _
    | succ k ih =>
      intro m hm
      have a1 := ih m (by omega)
      have a2 := dec (m + k) (by omega)
      show ρ (aUp A (m + k + 1) y) + (k + 1) ≤ ρ (aUp A m y)
      omega
  refine ⟨?_, rg n (Nat.le_refl _)⟩
  have := zpigeon (f := fun k => aUp A k.toNat y) (a := 0) (m := 64) (n + 1) (fun k k0 k1 => by
    have := rg k.toNat (by omega)
    exact ⟨this.1, by show aUp A k.toNat y < 0 + ((64 : Nat) : Int); omega⟩) (fun k l k0 k1 l0 l1 u => by
    have u : aUp A k.toNat y = aUp A l.toNat y := u
    rcases Nat.lt_trichotomy k.toNat l.toNat with v | v | v
    · have := dec2 (l.toNat - k.toNat) k.toNat (by omega)
      rw [show k.toNat + (l.toNat - k.toNat) = l.toNat by omega, u] at this
      omega
    · omega
    · have := dec2 (k.toNat - l.toNat) l.toNat (by omega)
      rw [show l.toNat + (k.toNat - l.toNat) = k.toNat by omega, u] at this
      omega)
  omega
/-- an inode's numbers alone matter -/
theorem aBlk_eq {N N' : Int → Int} (h : ∀ j, 20 * d ≤ j → j < 20 * d + 20 → N' j = N j) (hc : N (20 * d + 2) ≤ 8) : aBlk N' d k = aBlk N d k := by
  unfold aBlk
  rw [h (20 * d + 2) (by omega) (by omega)]
  exact aBk_congr _ _ _ (fun x x0 x1 => ⟨h _ (by omega) (by omega), h _ (by omega) (by omega)⟩)
theorem aTot_eq {N N' : Int → Int} (h : ∀ j, 20 * d ≤ j → j < 20 * d + 20 → N' j = N j) (hc : N (20 * d + 2) ≤ 8) : aTot N' d = aTot N d := by
  unfold aTot
  rw [h (20 * d + 2) (by omega) (by omega)]
  exact gSum_congr _ _ (fun x x0 x1 => h _ (by omega) (by omega))
theorem aIn_eq {N N' : Int → Int} (h : ∀ j, 20 * d ≤ j → j < 20 * d + 20 → N' j = N j) (hc : N (20 * d + 2) ≤ 8) : aIn N' d b ↔ aIn N d b := by
  unfold aIn
  rw [h (20 * d + 2) (by omega) (by omega)]
  constructor
  · rintro ⟨e, e0, e1, e2, e3⟩
    rw [h (20 * d + 3 + 2 * e) (by omega) (by omega)] at e2 e3
    rw [h (20 * d + 4 + 2 * e) (by omega) (by omega)] at e3
    exact ⟨e, e0, e1, e2, e3⟩
  · rintro ⟨e, e0, e1, e2, e3⟩
    refine ⟨e, e0, e1, ?_, ?_⟩
    · rw [h (20 * d + 3 + 2 * e) (by omega) (by omega)]; exact e2
    · rw [h (20 * d + 3 + 2 * e) (by omega) (by omega), h (20 * d + 4 + 2 * e) (by omega) (by omega)]; exact e3
/-- the inode d and its bytes are left alone -/
def aSm (A A' : aSt) (d : Int) : Prop := (∀ j, 20 * d ≤ j → j < 20 * d + 20 → A'.1 j = A.1 j) ∧ ∀ b, aIn A.1 d b → ∀ x, 0 ≤ x → x < 64 → A'.2.2 (64 * b + x) = A.2.2 (64 * b + x)
theorem aSm.get (h : aSm A A' d) (g : aN B A.1) (hd : 0 ≤ d ∧ d < 64) (hk : 0 ≤ k ∧ k < 64 * aTot A.1 d) : aGet A' d k = aGet A d k := by
  have c8 := (g d hd.1 hd.2).2.2.1.2
  unfold aGet aIx
  rw [aBlk_eq h.1 c8]
  exact h.2 _ (aBlk_in (g d hd.1 hd.2) (by omega)) _ (by omega) (by omega)
theorem aSm.nd (h : aSm A A' d) (g : aG B A) : (aNd A' d e ↔ aNd A d e) ∧ (aNd A d e → aNo A' d e = aNo A d e) := by
  have nm : (0 ≤ d ∧ d < 64) → (0 ≤ e ∧ e < A.1 (20 * d + 1) / 4) → aNm A' d e = aNm A d e ∧ aNo A' d e = aNo A d e := fun hd he => by
    have rm := g.room hd he
    have s0 := (g.1.1 d hd.1 hd.2).2.1.1
    unfold aNm aNo
    rw [h.get g.1.1 hd ⟨by omega, by omega⟩, h.get g.1.1 hd ⟨by omega, by omega⟩, h.get g.1.1 hd ⟨by omega, by omega⟩]
    exact ⟨rfl, rfl⟩
  unfold aNd
  rw [h.1 (20 * d) (by omega) (by omega), h.1 (20 * d + 1) (by omega) (by omega)]
  constructor
  · constructor
    · rintro ⟨u1, u2, u3, u4⟩
      exact ⟨u1, u2, u3, by rw [← (nm u1 u3).1]; exact u4⟩
    · rintro ⟨u1, u2, u3, u4⟩
      exact ⟨u1, u2, u3, by rw [(nm u1 u3).1]; exact u4⟩
  · rintro ⟨u1, u2, u3, u4⟩
    exact (nm u1 u3).2
/-- a byte of a file lies at one place -/
theorem aIx_inj {i' k' : Int} (g : aU B A) (hi : 0 ≤ i ∧ i < 64) (hi' : 0 ≤ i' ∧ i' < 64) (hk : 0 ≤ k ∧ k < 64 * aTot A.1 i) (hk' : 0 ≤ k' ∧ k' < 64 * aTot A.1 i') (he : aIx A.1 i k = aIx A.1 i' k') : i = i' ∧ k = k' := by
  unfold aIx at he
  have eb : aBlk A.1 i (k / 64) = aBlk A.1 i' (k' / 64) := by omega
  have em : k % 64 = k' % 64 := by omega
  have o := g.2.1 i _ hi.1 hi.2 (aBlk_in (g.1 i hi.1 hi.2) (k := k / 64) (by omega))
  have o' := g.2.1 i' _ hi'.1 hi'.2 (aBlk_in (g.1 i' hi'.1 hi'.2) (k := k' / 64) (by omega))
  rw [eb, o'] at o
  have ii : i = i' := by omega
  subst ii
  have := aBlk_inj (B := B) hi (g.1 i hi.1 hi.2) g.2.2 (k := k / 64) (k' := k' / 64) (by omega) (by omega) eb
  exact ⟨rfl, by omega⟩
end RANKS
