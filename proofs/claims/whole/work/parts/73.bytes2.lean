/-! Bytes of the image and of the reference; counts of changed blocks. -/
theorem zEnds.pure {md m pc : Nat} {ls st : List zV} {S : zS} {Q : Int → zS → Prop} {F : Prop} (h : zEnds md m pc ls st S (fun v S' => F ∧ Q v S') (fun _ _ => False)) : F := by
  obtain ⟨n, c, v, S', -, h⟩ := h
  rcases h with ⟨-, f, -⟩ | ⟨-, f⟩
  · exact f
  · exact f.elim
theorem gCnt_mono {P Q : Int → Prop} : ∀ (n : Nat) (a : Int), (∀ i, a ≤ i → i < a + n → P i → Q i) → gCnt P a n ≤ gCnt Q a n := by
  intro n
  induction n with
  | zero => intro a _; exact Int.le_refl _
  | succ n ih =>
    intro a h
    have h1 := ih (a + 1) (fun i i0 i1 => h i (by omega) (by omega))
    by_cases p : P a
    · rw [gCnt_yes p, gCnt_yes (h a (by omega) (by omega) p)]; omega
    · rw [gCnt_no p]
      by_cases q : Q a
      · rw [gCnt_yes q]; omega
      · rw [gCnt_no q]; exact h1
theorem gCnt_inj {P : Int → Prop} {f : Int → Int} {m : Nat} : ∀ (n : Nat) (a : Int), (∀ b, a ≤ b → b < a + n → P b → ∃ i : Int, 0 ≤ i ∧ i < (m : Int) ∧ f i = b) → gCnt P a n ≤ gCnt (fun i => a ≤ f i ∧ f i < a + n) 0 m := by
  intro n
  induction n with
  | zero => intro a _; exact (gCnt_rg _ _ _).1
  | succ n ih =>
    intro a h
    have h1 := ih (a + 1) (fun i i0 i1 => h i (by omega) (by omega))
    by_cases p : P a
    · obtain ⟨x, x0, x1, x2⟩ := h a (by omega) (by omega) p
      have h2 := gCnt_one (P := fun i => a + 1 ≤ f i ∧ f i < a + 1 + n) (Q := fun i => (a + 1 ≤ f i ∧ f i < a + 1 + n) ∨ i = x) (x := x) (by show ¬ (a + 1 ≤ f x ∧ _); omega) (fun b => Iff.rfl) m 0
      rw [if_pos (by omega)] at h2
      have h3 : gCnt (fun i => (a + 1 ≤ f i ∧ f i < a + 1 + n) ∨ i = x) 0 m ≤ gCnt (fun i => a ≤ f i ∧ f i < a + ((n + 1 : Nat) : Int)) 0 m := gCnt_mono m 0 (fun i _ _ q => by
        show a ≤ f i ∧ f i < a + ((n + 1 : Nat) : Int)
        rcases q with q | q
        · omega
        · rw [q]; omega)
      rw [gCnt_yes p]
      omega
    · rw [gCnt_no p]
      have h3 : gCnt (fun i => a + 1 ≤ f i ∧ f i < a + 1 + n) 0 m ≤ gCnt (fun i => a ≤ f i ∧ f i < a + ((n + 1 : Nat) : Int)) 0 m := gCnt_mono m 0 (fun i _ _ q => by
        show a ≤ f i ∧ f i < a + ((n + 1 : Nat) : Int)
        omega)
      omega
/-- what an operation changed, from where nothing was marked -/
theorem fS.few {F : zHp} {B n : Int} {X : List Int} {β : Int → Int} {L : Int → Int} {H : zHp} (h : fS F B n X β L H) (hF : ∀ b, 25 ≤ b → b < B → F 22 b = 0) : gCnt (iCh β H) 25 (B - 25).toNat ≤ 24 := by
  have hB := h.1.1
  obtain ⟨-, -, ⟨c0, c1, c2⟩, -, c5, -, -, c8⟩ := h.2.1
  have un := iUns_nn H X
  have h1 := gCnt_inj (P := iCh β H) (f := fun i => H 24 i) (m := (H 18 8).toNat) (B - 25).toNat 25 (fun b b0 b1 p => by
    have s : H 23 b ≠ 0 := fun z => p.1 ((c8.1 b (by omega) (by omega)).mpr ⟨hF b b0 (by omega), z⟩)
    obtain ⟨i, i0, i1, i2⟩ := c5 b (by omega) (by omega) s
    exact ⟨i, i0, by omega, i2⟩)
  have h2 := (gCnt_rg (fun i => 25 ≤ H 24 i ∧ H 24 i < 25 + ((B - 25).toNat : Int)) (H 18 8).toNat 0).2
  omega
/-- what the image holds of a block in use is what the reference says -/
theorem aE_by {B b k : Int} {A : aSt} {β V : Int → Int} (h : aE B A β) (ha : aN B A.1) (hβ : ∀ j, 0 ≤ j → 0 ≤ β j ∧ β j < 256) (hb : 25 ≤ b ∧ b < B) (hB : B ≤ 768) (ho : 0 < A.2.1 b) (hk : 0 ≤ k ∧ k < 64) : β (64 * b + k) = mBy B A V b k := by
  unfold mBy
  rw [if_neg (by omega)]
  by_cases c1 : b < 57
  · rw [if_pos c1]
    have hi : 0 ≤ 2 * (b - 25) + k / 32 ∧ 2 * (b - 25) + k / 32 < 64 := by omega
    obtain ⟨e1, e2, e3, e4, e5, e6⟩ := h.1 (2 * (b - 25) + k / 32) hi.1 hi.2
    obtain ⟨-, -, ⟨n1, n2⟩, -⟩ := ha (2 * (b - 25) + k / 32) hi.1 hi.2
    have ix : 64 * b + k = 1600 + 32 * (2 * (b - 25) + k / 32) + k % 32 := by omega
    rw [ix]
    have hf : 0 ≤ k % 32 ∧ k % 32 < 32 := by omega
    generalize 2 * (b - 25) + k / 32 = i at hi e1 e2 e3 e4 e5 e6 n1 n2
    generalize k % 32 = f at hf
    unfold nBy
    by_cases f0 : f = 0
    · rw [if_pos f0, f0, Int.add_zero]; exact e1
    · rw [if_neg f0]
      by_cases f1 : f = 1
      · rw [if_pos f1, f1]; exact e2
      · rw [if_neg f1]
        by_cases f4 : f < 4
        · rw [if_pos f4]
          by_cases f2 : f = 2
          · rw [f2, e3]
            show _ = A.1 (20 * i + 1) / ((1 : Nat) : Int) % 256
            rw [show ((1 : Nat) : Int) = 1 from rfl, Int.ediv_one]
          · have f3 : f = 3 := by omega
            rw [f3, e4]
            rfl
        · rw [if_neg f4]
          by_cases f31 : f = 31
          · rw [f31, e5]
            show 0 = if A.1 (20 * i + 2) ≤ 9 then 0 else _
            rw [if_pos (by omega)]
          · have he : 0 ≤ (f - 4) / 3 ∧ (f - 4) / 3 < 9 := by omega
            have hp : (f - 4) % 3 = 0 ∨ (f - 4) % 3 = 1 ∨ (f - 4) % 3 = 2 := by omega
            obtain ⟨y, n⟩ := e6 ((f - 4) / 3) he.1 (by omega)
            by_cases ce : A.1 (20 * i + 2) ≤ (f - 4) / 3
            · rw [if_pos ce]
              obtain ⟨z1, z2, z3⟩ := n (by omega)
              rcases hp with p | p | p
              · rw [← z1]; congr 1; omega
              · rw [← z2]; congr 1; omega
              · rw [← z3]; congr 1; omega
            · rw [if_neg ce]
              obtain ⟨z1, z2, z3⟩ := y (by omega)
              rcases hp with p | p | p
              · rw [if_neg (by omega), p]
                show _ = A.1 (20 * i + 3 + 2 * ((f - 4) / 3)) / ((1 : Nat) : Int) % 256
                rw [show ((1 : Nat) : Int) = 1 from rfl, Int.ediv_one, ← z1]; congr 1; omega
              · rw [if_neg (by omega), p]
                show _ = A.1 (20 * i + 3 + 2 * ((f - 4) / 3)) / 256 % 256
                rw [← z2]; congr 1; omega
              · rw [if_pos p, ← z3]; congr 1; omega
  · rw [if_neg c1]
    by_cases c2 : b < 59
    · rw [if_pos c2]
      have hm := (mMap_bits B A.2.1 (512 * (b - 57) + 8 * k)).1
      refine zbyte_ext (hβ _ (by omega)) hm (fun j hj => ?_)
      have q := h.2.1 (512 * (b - 57) + 8 * k + j) (by omega) (by omega)
      unfold mT at q
      rw [show 3648 + (512 * (b - 57) + 8 * k + (j : Int)) / 8 = 64 * b + k by omega, show (512 * (b - 57) + 8 * k + (j : Int)) % 8 = (j : Int) by omega, Int.toNat_natCast] at q
      rw [(mMap_bits B A.2.1 (512 * (b - 57) + 8 * k)).2 j hj]
      unfold mBit
      by_cases c : 512 * (b - 57) + 8 * k + (j : Int) < B ∧ 0 < A.2.1 (512 * (b - 57) + 8 * k + (j : Int))
      · rw [if_pos c]; exact q.mpr c
      · rw [if_neg c]
        have : ¬ β (64 * b + k) / ((2 ^ j : Nat) : Int) % 2 = 1 := fun u => c (q.mp u)
        omega
    · rw [if_neg c2]
      exact h.2.2 b k (by omega) hb.2 ho hk.1 hk.2
