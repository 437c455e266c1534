/-! Inodes released; directories that hold something. -/
section RELEASE
variable {d w r : Int} {t : Nat} {L : Int → Int} {H G F : zHp} {Qr Qt : Int → zS → Prop} {A : aSt} {i k n B : Int} {X : List Int} {β : Int → Int}
/-- owners, with the blocks ahead of the k-th of the extent e given back -/
noncomputable def aRl (N O : Int → Int) (i e k : Int) : Int → Int := fun b => @ite _ (∃ x, 0 ≤ x ∧ x < N (20 * i + 2) ∧ N (20 * i + 3 + 2 * x) ≤ b ∧ b < N (20 * i + 3 + 2 * x) + N (20 * i + 4 + 2 * x) ∧ (x < e ∨ (x = e ∧ b < N (20 * i + 3 + 2 * e) + k))) (Classical.propDecidable _) 0 (O b)
theorem aRl_congr {N O O' : Int → Int} {P : Int → Prop} {i e k : Int} (h : ∀ b, ((∃ x, 0 ≤ x ∧ x < N (20 * i + 2) ∧ N (20 * i + 3 + 2 * x) ≤ b ∧ b < N (20 * i + 3 + 2 * x) + N (20 * i + 4 + 2 * x) ∧ (x < e ∨ (x = e ∧ b < N (20 * i + 3 + 2 * e) + k))) ↔ P b)) (h1 : ∀ b, P b → O' b = 0) (h0 : ∀ b, ¬ P b → O' b = O b) : aRl N O i e k = O' := by
  funext b
  unfold aRl
  by_cases c : P b
  · rw [if_pos ((h b).mpr c), h1 b c]
  · rw [if_neg (fun u => c ((h b).mp u)), h0 b c]
theorem bR_at {β : Int → Int} {a b : Int} (h : a ≤ b) : bU (bR β a b) b 0 = bR β a (b + 1) := by
  funext j
  unfold bU bR
  by_cases c : j = b
  · rw [if_pos c, if_pos (by omega)]
  · rw [if_neg c]
    by_cases c2 : a ≤ j ∧ j < b
    · rw [if_pos c2, if_pos (by omega)]
    · rw [if_neg c2, if_neg (by omega)]
theorem bR_0 {β : Int → Int} {a : Int} : bR β a a = β := by
  funext j
  unfold bR
  rw [if_neg (by omega)]
/-- Inodes.release -/
theorem n_release (h : fS F B n X β L H) (hE : aE B A β) (g : aG B A) (hi : 0 ≤ i ∧ i < 64) (hX : 25 + i / 2 ∈ X ∧ 57 ∈ X ∧ 58 ∈ X) (hQ : ∀ β' H', fS F B n X β' L H' → aE B (aFree A i) β' → Qr 0 (t, L, H')) : zEnds 80 119 0 [(26, 26), (0, i), (9, 0), (9, 0), (9, 0), (9, 0), (9, 0)] [] (t, L, H) Qr Qt := by
  have hB := h.1.1
  obtain ⟨N, O, W⟩ := A
  have hA : aI B N i := g.1.1 i hi.1 hi.2
  have c8 := hA.2.2.1
  have hn : aN B N := g.1.1
  have l3 : ∀ β0, aE B (N, aRl N O i (N (20 * i + 2)) 0, W) β0 → ∀ (m : Nat) (f : Int) (H' : zHp), f + m = 32 → 0 ≤ f → fS F B n X (bR β0 (1600 + 32 * i) (1600 + 32 * i + f)) L H' → zEnds 80 119 65 [(26, 26), (0, i), (9, 0), (0, f), (9, 0), (9, 0), (9, 0)] [] (t, L, H') Qr Qt := by
    intro β0 hE0 m
    induction m with
    | zero =>
      intro f H' hf f0 h'
      refine v_119_65 ⟨fun _ => hQ _ H' h' ?_, fun z => absurd (by omega) z⟩
      rw [show f = 32 by omega]
      have eO' : aRl N O i (N (20 * i + 2)) 0 = (aFree (N, O, W) i).2.1 := aRl_congr (P := fun b => aIn N i b) (fun b => ⟨fun ⟨x, x0, x1, x2, x3, _⟩ => ⟨x, x0, x1, x2, x3⟩, fun ⟨x, x0, x1, x2, x3⟩ => ⟨x, x0, x1, x2, x3, Or.inl x1⟩⟩) (fun b u => by
        show @ite _ (aIn N i b) (Classical.propDecidable _) 0 (O b) = 0
        rw [if_pos u]) (fun b u => by
        show @ite _ (aIn N i b) (Classical.propDecidable _) 0 (O b) = O b
        rw [if_neg u])
      show aE B (bR N (20 * i) (20 * i + 20), (aFree (N, O, W) i).2.1, W) _
      rw [← eO']
      have zn : ∀ j, 20 * i ≤ j → j < 20 * i + 20 → bR N (20 * i) (20 * i + 20) j = 0 := fun j j0 j1 => by unfold bR; rw [if_pos ⟨j0, j1⟩]
      have zb : ∀ j, 1600 + 32 * i ≤ j → j < 1600 + 32 * i + 32 → bR β0 (1600 + 32 * i) (1600 + 32 * i + 32) j = 0 := fun j j0 j1 => by unfold bR; rw [if_pos ⟨j0, j1⟩]
      refine aE_node hE0 (eN_one hn hE0.1 (fun j hj => by unfold bR; rw [if_neg hj]) (fun j _ hj => by unfold bR; rw [if_neg (by omega)]) ?_) (fun j hj => by unfold bR; rw [if_neg (by omega)])
      refine ⟨?_, ?_, ?_, ?_, zb _ (by omega) (by omega), fun e e0 e8 => ⟨fun u => ?_, fun _ => ⟨zb _ (by omega) (by omega), zb _ (by omega) (by omega), zb _ (by omega) (by omega)⟩⟩⟩
      · rw [zb _ (by omega) (by omega), zn _ (by omega) (by omega)]
      · rw [zb _ (by omega) (by omega), zn _ (by omega) (by omega)]
      · rw [zb _ (by omega) (by omega), zn _ (by omega) (by omega)]; rfl
      · rw [zb _ (by omega) (by omega), zn _ (by omega) (by omega)]; rfl
      · rw [zn _ (by omega) (by omega)] at u
        omega
    | succ m ih =>
      intro f H' hf f0 h'
      refine v_119_65 ⟨fun z => absurd z (by omega), fun _ => n_home hi (n_at hi (by omega) (i_setByte h' (by omega) (by omega) hX.1 (fun H2 h2 => ?_) (by omega)))⟩
      rw [n_ix, show (0 : Int) % 256 = 0 from rfl, bR_at (by omega)] at h2
      rw [z32_id (by omega) (by omega)]
      exact ih (f + 1) H2 (by omega) (by omega) (by rw [show 1600 + 32 * i + (f + 1) = 1600 + 32 * i + f + 1 by omega]; exact h2)
  have l1 : ∀ (m : Nat) (e : Int) (β' : Int → Int) (H' : zHp), e + m = N (20 * i + 2) → 0 ≤ e → fS F B n X β' L H' → aE B (N, aRl N O i e 0, W) β' → zEnds 80 119 8 [(26, 26), (0, i), (0, N (20 * i + 2)), (0, e), (9, 0), (9, 0), (9, 0)] [] (t, L, H') Qr Qt := by
    intro m
    induction m with
    | zero =>
      intro e β' H' he e0 h' hE'
      refine v_119_8 ⟨fun _ => l3 β' (by rw [show N (20 * i + 2) = e by omega]; exact hE') 32 0 H' (by decide) (by decide) ?_, fun z => absurd (by omega) z⟩
      rw [show 1600 + 32 * i + 0 = 1600 + 32 * i by omega, bR_0]
      exact h'
    | succ m ih =>
      intro e β' H' he e0 h' hE'
      have hx := hA.2.2.2 e e0 (by omega)
      have l2 : ∀ (m' : Nat) (k : Int) (β2 : Int → Int) (H2 : zHp), k + m' = N (20 * i + 4 + 2 * e) → 0 ≤ k → fS F B n X β2 L H2 → aE B (N, aRl N O i e k, W) β2 → zEnds 80 119 32 [(26, 26), (0, i), (0, N (20 * i + 2)), (0, e), (0, N (20 * i + 3 + 2 * e)), (0, N (20 * i + 4 + 2 * e)), (0, k)] [] (t, L, H2) Qr Qt := by
        intro m'
        induction m' with
        | zero =>
          intro k β2 H2 hk k0 h2 hE2
          refine v_119_32 ⟨fun _ => ?_, fun z => absurd (by omega) z⟩
          rw [z32_id (by omega) (by omega)]
          refine ih (e + 1) β2 H2 (by omega) (by omega) h2 ?_
          have eq : aRl N O i e k = aRl N O i (e + 1) 0 := by
            funext b
            unfold aRl
            have iff : (∃ x, 0 ≤ x ∧ x < N (20 * i + 2) ∧ N (20 * i + 3 + 2 * x) ≤ b ∧ b < N (20 * i + 3 + 2 * x) + N (20 * i + 4 + 2 * x) ∧ (x < e ∨ (x = e ∧ b < N (20 * i + 3 + 2 * e) + k))) ↔ (∃ x, 0 ≤ x ∧ x < N (20 * i + 2) ∧ N (20 * i + 3 + 2 * x) ≤ b ∧ b < N (20 * i + 3 + 2 * x) + N (20 * i + 4 + 2 * x) ∧ (x < e + 1 ∨ (x = e + 1 ∧ b < N (20 * i + 3 + 2 * (e + 1)) + 0))) := by
              constructor
              · rintro ⟨x, x0, x1, x2, x3, x4⟩
                exact ⟨x, x0, x1, x2, x3, Or.inl (by omega)⟩
              · rintro ⟨x, x0, x1, x2, x3, x4⟩
                refine ⟨x, x0, x1, x2, x3, ?_⟩
                rcases x4 with u | ⟨u1, u2⟩
                · by_cases cx : x = e
                  · subst cx
                    exact Or.inr ⟨rfl, by omega⟩
                  · exact Or.inl (by omega)
                · subst u1
                  omega
            by_cases c : (∃ x, 0 ≤ x ∧ x < N (20 * i + 2) ∧ N (20 * i + 3 + 2 * x) ≤ b ∧ b < N (20 * i + 3 + 2 * x) + N (20 * i + 4 + 2 * x) ∧ (x < e ∨ (x = e ∧ b < N (20 * i + 3 + 2 * e) + k)))
            · rw [if_pos c, if_pos (iff.mp c)]
            · rw [if_neg c, if_neg (fun u => c (iff.mpr u))]
          rw [← eq]
          exact hE2
        | succ m' ih2 =>
          intro k β2 H2 hk k0 h2 hE2
          refine v_119_32 ⟨fun z => absurd z (by omega), fun _ => ?_⟩
          rw [z32_id (x := N (20 * i + 3 + 2 * e) + k) (by omega) (by omega), z32_id (x := k + 1) (by omega) (by omega)]
          refine i_giveBack h2 (by omega) (mX5 hX.2 (by omega) (by omega)) (fun H3 h3 => ih2 (k + 1) _ H3 (by omega) (by omega) h3 ?_)
          have q := aE_give (b := N (20 * i + 3 + 2 * e) + k) (N' := N) (β' := mU β2 (N (20 * i + 3 + 2 * e) + k) 0) hE2 (fun j hj => h2.rg j hj) hB.2 (by omega) (fun i' i0 i1 => eI_congr (hE2.1 i' i0 i1) (fun _ _ _ => rfl) (fun f f0 f1 => mU_lo (by omega) (by omega)) (hn i' i0 i1).2.2.1.2) (fun _ _ => rfl)
          have eq : bU (aRl N O i e k) (N (20 * i + 3 + 2 * e) + k) 0 = aRl N O i e (k + 1) := by
            funext b
            unfold bU
            by_cases cb : b = N (20 * i + 3 + 2 * e) + k
            · rw [if_pos cb]
              unfold aRl
              rw [if_pos ⟨e, e0, by omega, by omega, by omega, Or.inr ⟨rfl, by omega⟩⟩]
            · rw [if_neg cb]
              unfold aRl
              have iff : (∃ x, 0 ≤ x ∧ x < N (20 * i + 2) ∧ N (20 * i + 3 + 2 * x) ≤ b ∧ b < N (20 * i + 3 + 2 * x) + N (20 * i + 4 + 2 * x) ∧ (x < e ∨ (x = e ∧ b < N (20 * i + 3 + 2 * e) + k))) ↔ (∃ x, 0 ≤ x ∧ x < N (20 * i + 2) ∧ N (20 * i + 3 + 2 * x) ≤ b ∧ b < N (20 * i + 3 + 2 * x) + N (20 * i + 4 + 2 * x) ∧ (x < e ∨ (x = e ∧ b < N (20 * i + 3 + 2 * e) + (k + 1)))) := by
                constructor
                · rintro ⟨x, x0, x1, x2, x3, x4⟩
                  exact ⟨x, x0, x1, x2, x3, by omega⟩
                · rintro ⟨x, x0, x1, x2, x3, x4⟩
                  exact ⟨x, x0, x1, x2, x3, by omega⟩
              by_cases c : (∃ x, 0 ≤ x ∧ x < N (20 * i + 2) ∧ N (20 * i + 3 + 2 * x) ≤ b ∧ b < N (20 * i + 3 + 2 * x) + N (20 * i + 4 + 2 * x) ∧ (x < e ∨ (x = e ∧ b < N (20 * i + 3 + 2 * e) + k)))
              · rw [if_pos c, if_pos (iff.mp c)]
              · rw [if_neg c, if_neg (fun u => c (iff.mpr u))]
          rw [eq] at q
          exact q
      refine v_119_8 ⟨fun z => absurd z (by omega), fun _ => n_first h' (hE'.1 i hi.1 hi.2) hi ⟨e0, by show e < N (20 * i + 2); omega, by omega⟩ (by show 0 ≤ N (20 * i + 3 + 2 * e) ∧ N (20 * i + 3 + 2 * e) ≤ 65535; omega) (n_len h' (hE'.1 i hi.1 hi.2) hi ⟨e0, by show e < N (20 * i + 2); omega, by omega⟩ ?_)⟩
      exact l2 (N (20 * i + 4 + 2 * e)).toNat 0 β' H' (by omega) (by decide) h' hE'
  refine v_119 (n_count h (hE.1 i hi.1 hi.2) hi (l1 (N (20 * i + 2)).toNat 0 β H (by omega) (by decide) h ?_))
  have eq : aRl N O i 0 0 = O := aRl_congr (P := fun _ => False) (fun b => ⟨fun ⟨x, x0, x1, x2, x3, x4⟩ => by
    rcases x4 with u | ⟨u, v⟩
    · omega
    · subst u; omega, fun u => u.elim⟩) (fun b u => u.elim) (fun _ _ => rfl)
  rw [eq]
  exact hE
/-- DiskPoolModel.frees -/
theorem m_frees (h : mA d w r G A L H) (g : aG B A) (hB : B ≤ 768) (hi : 0 ≤ i ∧ i < 64) (hQ : ∀ H', mA d w r G (aFree A i) L H' → Qr 0 (t, L, H')) : zEnds 118 231 0 [(29, 35), (0, i), (9, 0)] [] (t, L, H) Qr Qt := by
  have l45 := h.l.1
  have l2 : ∀ (A2 : aSt), ∀ (m : Nat) (f : Int) (H' : zHp), f + m = 20 → 0 ≤ f → mA d w r G (bR A2.1 (20 * i) (20 * i + f), A2.2.1, A2.2.2) L H' → (∀ H'', mA d w r G (bR A2.1 (20 * i) (20 * i + 20), A2.2.1, A2.2.2) L H'' → Qr 0 (t, L, H'')) → zEnds 118 231 24 [(29, 35), (0, i), (0, f)] [] (t, L, H') Qr Qt := by
    intro A2 m
    induction m with
    | zero =>
      intro f H' hf f0 h' hq
      refine v_231_24 ⟨fun _ => hq H' ?_, fun z => absurd (by omega) z⟩
      rw [show f = 20 by omega] at h'
      exact h'
    | succ m ih =>
      intro f H' hf f0 h' hq
      refine v_231_24 ⟨fun z => absurd z (by omega), fun _ => ?_⟩
      rw [z32_id (x := 20 * i) (by omega) (by omega), z32_id (x := 20 * i + f) (by omega) (by omega), z32_id (x := f + 1) (by omega) (by omega)]
      refine ⟨⟨by omega, by show 20 * i + f < L 45; omega⟩, ih (f + 1) _ (by omega) (by omega) ?_ hq⟩
      have q := mA.nd h' (j := 20 * i + f) (v := 0)
      rw [bR_at (by omega)] at q
      rw [show 20 * i + (f + 1) = 20 * i + f + 1 by omega]
      exact q
  have l1 : ∀ (m : Nat) (A1 : aSt) (H' : zHp), aTot A1.1 i = m → aU B A1 → mA d w r G A1 L H' → (∀ H'', mA d w r G (bR (aGiveN i m A1).1 (20 * i) (20 * i + 20), (aGiveN i m A1).2.1, (aGiveN i m A1).2.2) L H'' → Qr 0 (t, L, H'')) → zEnds 118 231 0 [(29, 35), (0, i), (9, 0)] [] (t, L, H') Qr Qt := by
    intro m
    induction m with
    | zero =>
      intro A1 H' ht u h' hq
      have e2 : H' 45 (20 * i + 2) = A1.1 (20 * i + 2) := h'.2.1 _ (by omega) (by omega)
      have c0 : A1.1 (20 * i + 2) ≤ 0 := by
        apply Classical.byContradiction
        intro c
        have hA := u.1 i hi.1 hi.2
        have := aTot_last (N := A1.1) (i := i) (by omega)
        have lx := hA.2.2.2 (A1.1 (20 * i + 2) - 1) (by omega) (by omega)
        have nn : 0 ≤ gSum (fun e => A1.1 (20 * i + 4 + 2 * e)) 0 (A1.1 (20 * i + 2) - 1).toNat := gSum_nn _ _ (fun x x0 x1 => by
          have := hA.2.2.2 x x0 (by omega)
          omega)
        omega
      refine v_231_0 ?_
      rw [z32_id (x := 20 * i) (by omega) (by omega), z32_id (x := 20 * i + 2) (by omega) (by omega)]
      refine ⟨⟨by omega, by show 20 * i + 2 < L 45; omega⟩, fun _ => l2 A1 20 0 H' (by decide) (by decide) ?_ hq, fun z => absurd (by show H' 45 (20 * i + 2) ≤ 0; omega) z⟩
      rw [show 20 * i + 0 = 20 * i by omega, bR_0]
      exact h'
    | succ m ih =>
      intro A1 H' ht u h' hq
      have e2 : H' 45 (20 * i + 2) = A1.1 (20 * i + 2) := h'.2.1 _ (by omega) (by omega)
      have c0 : 0 < A1.1 (20 * i + 2) := aTot_pos (u.1 i hi.1 hi.2) (by omega)
      obtain ⟨-, -, -, s3, -⟩ := aGive_N u.1 hi c0
      obtain ⟨b, -, -, -, -, -, b6⟩ := aGive_spec u hi c0
      refine v_231_0 ?_
      rw [z32_id (x := 20 * i) (by omega) (by omega), z32_id (x := 20 * i + 2) (by omega) (by omega)]
      exact ⟨⟨by omega, by show 20 * i + 2 < L 45; omega⟩, fun z => absurd (show H' 45 (20 * i + 2) ≤ 0 from z) (by omega), fun _ => m_gives h' u.1 hB hi c0 (fun H'' h'' => ih (aGive A1 i) H'' (by omega) b6 h'' hq)⟩
  have nn := aTot_nn (A := A) g.1.1 hi
  refine l1 (aTot A.1 i).toNat A H (by omega) g.1 h (fun H'' h'' => hQ H'' ?_)
  obtain ⟨q1, q2, -, q4, -, q6, q7, q8, q9⟩ := aGiveN_spec (B := B) hi (aTot A.1 i).toNat A g.1 (by omega)
  generalize aGiveN i (aTot A.1 i).toNat A = A2 at h'' q1 q2 q4 q6 q7 q8 q9
  have no : ∀ b, ¬ aIn A2.1 i b := fun b u => by
    obtain ⟨e, e0, e1, e2, e3⟩ := u
    have hA := q1.1 i hi.1 hi.2
    have := aTot_last (N := A2.1) (i := i) (by omega)
    have lx := hA.2.2.2 (A2.1 (20 * i + 2) - 1) (by omega) (by omega)
    have nn : 0 ≤ gSum (fun e => A2.1 (20 * i + 4 + 2 * e)) 0 (A2.1 (20 * i + 2) - 1).toNat := gSum_nn _ _ (fun x x0 x1 => by
      have := hA.2.2.2 x x0 (by omega)
      omega)
    omega
  have eN : bR A2.1 (20 * i) (20 * i + 20) = bR A.1 (20 * i) (20 * i + 20) := by
    funext j
    unfold bR
    by_cases c : 20 * i ≤ j ∧ j < 20 * i + 20
    · rw [if_pos c, if_pos c]
    · rw [if_neg c, if_neg c]; exact q4 j c
  have eO' : A2.2.1 = (aFree A i).2.1 := by
    funext b
    show A2.2.1 b = @ite _ (aIn A.1 i b) (Classical.propDecidable _) 0 (A.2.1 b)
    by_cases c : aIn A.1 i b
    · rw [if_pos c]; exact q9 b c (no b)
    · rw [if_neg c]; exact q8 b c
  rw [eN, eO', q6] at h''
  exact h''
/-- Tree.hasEntries -/
theorem t_hasEntries (h : fS F B n X β L H) (hE : aE B A β) (hS : aS B A) (hi : 0 ≤ i ∧ i < 64) (h1 : (∃ e, aNd A i e) → Qr 1 (t, L, H)) (h0 : ¬ (∃ e, aNd A i e) → Qr 0 (t, L, H)) : zEnds 80 126 0 [(27, 27), (0, i), (9, 0), (9, 0), (9, 0), (9, 0)] [] (t, L, H) Qr Qt := by
  have hA := hS.1 i hi.1 hi.2
  have hsz := hA.2.1
  have hI := hE.1 i hi.1 hi.2
  have hl := h.1.1
  refine v_126 (n_kind h hI hi ⟨fun k2 => ?_, fun k2 => ?_⟩)
  · exact v_126_30 ⟨fun _ => ⟨Or.inl rfl, h0 (fun ⟨e, u⟩ => k2 u.2.1)⟩, fun z => absurd (by decide) z⟩
  · have hk : A.1 (20 * i) = 2 := by omega
    have h64 := (hS.2.1 i hi.1 hi.2).2 hk
    have key : ∀ (m : Nat) (x : Int), 0 ≤ x → 16 * (A.1 (20 * i + 1) / 64) = x + m → (∀ y, 0 ≤ y → y < x → aNm A i y = 0) →
        (x % 16 = 0 → zEnds 80 126 30 [(27, 27), (0, i), (0, A.1 (20 * i + 1) / 64), (0, x / 16), (9, 0), (9, 0)] [] (t, L, H) Qr Qt) ∧
        (m ≠ 0 → zEnds 80 126 49 [(27, 27), (0, i), (0, A.1 (20 * i + 1) / 64), (0, x / 16), (0, aBlk A.1 i (x / 16)), (0, 4 * (x % 16))] [] (t, L, H) Qr Qt) := by
      intro m
      induction m with
      | zero =>
        intro x x1 x2 hq
        exact ⟨fun _ => v_126_30 ⟨fun _ => ⟨Or.inl rfl, h0 (fun ⟨e, u⟩ => u.2.2.2 (hq e u.2.2.1.1 (by have := u.2.2.1.2; omega)))⟩, fun z => absurd (by omega) z⟩, fun u => absurd rfl u⟩
      | succ m ih =>
        intro x x1 x2 hq
        have hb : 0 ≤ x / 16 ∧ 64 * (x / 16) < A.1 (20 * i + 1) := by omega
        have gb := hS.blk hi hb
        have step : zEnds 80 126 49 [(27, 27), (0, i), (0, A.1 (20 * i + 1) / 64), (0, x / 16), (0, aBlk A.1 i (x / 16)), (0, 4 * (x % 16))] [] (t, L, H) Qr Qt := by
          refine v_126_49 ⟨fun z => by omega, fun _ => ?_⟩
          rw [z32_id (x := 4 * (x % 16) + 4) (by omega) (by omega)]
          refine i_pairAt h (by omega) (by omega) ?_
          have en : β (64 * aBlk A.1 i (x / 16) + 4 * (x % 16)) + 256 * β (64 * aBlk A.1 i (x / 16) + 4 * (x % 16) + 1) = aNm A i x := by
            unfold aNm
            rw [hE.get hS hi hb (by omega), Int.add_assoc (64 * aBlk A.1 i (x / 16)), hE.get hS hi hb (by omega), show 64 * (x / 16) + 4 * (x % 16) = 4 * x by omega, show 64 * (x / 16) + (4 * (x % 16) + 1) = 4 * x + 1 by omega]
          rw [en]
          refine ⟨fun z => ?_, fun z => ⟨Or.inr rfl, h1 ⟨x, hi, hk, ⟨x1, by omega⟩, z⟩⟩⟩
          have gq := ih (x + 1) (by omega) (by omega) (fun y y0 y1 => by
            by_cases c : y = x
            · rw [c]; exact z
            · exact hq y y0 (by omega))
          by_cases c : x % 16 = 15
          · refine v_126_49 ⟨fun _ => ?_, fun u => absurd (by omega) u⟩
            rw [z32_id (x := x / 16 + 1) (by omega) (by omega), show x / 16 + 1 = (x + 1) / 16 by omega]
            exact gq.1 (by omega)
          · have g2 := gq.2 (by omega)
            rw [show (x + 1) / 16 = x / 16 by omega, show 4 * ((x + 1) % 16) = 4 * (x % 16) + 4 by omega] at g2
            exact g2
        refine ⟨fun c => v_126_30 ⟨fun z => by omega, fun _ => n_blockOf h hI hA hi (by omega) ?_⟩, fun _ => step⟩
        rw [c] at step
        exact step
    refine n_size h hI hi (by omega) ⟨by decide, ?_⟩
    rw [zdiv_pos (by omega) (by omega) (by decide)]
    exact (key (A.1 (20 * i + 1) / 4).toNat 0 (by omega) (by omega) (fun y y0 y1 => by omega)).1 (by decide)
/-- DiskPoolModel.isEmpty -/
theorem m_isEmpty (h : mA d w r G A L H) (hS : aS B A) (hb : aBy B A) (hB : B ≤ 768) (hi : 0 ≤ i ∧ i < 64) (hk : A.1 (20 * i) = 2) (h1 : ¬ (∃ e, aNd A i e) → Qr 1 (t, L, H)) (h0 : (∃ e, aNd A i e) → Qr 0 (t, L, H)) : zEnds 118 239 0 [(29, 35), (0, i), (9, 0), (9, 0)] [] (t, L, H) Qr Qt := by
  have ha := hS.1 i hi.1 hi.2
  have hs := ha.2.1
  have key : ∀ (m : Nat) (e f : Int), 0 ≤ e → e + m = A.1 (20 * i + 1) / 4 → (f = 1 ∧ (∀ y, 0 ≤ y → y < e → aNm A i y = 0)) ∨ (f = 0 ∧ ∃ y, aNd A i y) → zEnds 118 239 4 [(29, 35), (0, i), (0, f), (0, e)] [] (t, L, H) Qr Qt := by
    intro m
    induction m with
    | zero =>
      intro e f e1 e2 hq
      refine v_239_4 (m_sizeOf h hi ⟨by decide, ?_⟩)
      rw [zdiv_pos hs.1 (by omega) (by decide)]
      refine ⟨fun _ => ?_, fun z => absurd (by omega) z⟩
      rcases hq with ⟨q1, q2⟩ | ⟨q1, q2⟩
      · rw [q1]
        exact ⟨Or.inr rfl, h1 (fun ⟨y, u⟩ => u.2.2.2 (q2 y u.2.2.1.1 (by have := u.2.2.1.2; omega)))⟩
      · rw [q1]
        exact ⟨Or.inl rfl, h0 q2⟩
    | succ m ih =>
      intro e f e1 e2 hq
      refine v_239_4 (m_sizeOf h hi ⟨by decide, ?_⟩)
      rw [zdiv_pos hs.1 (by omega) (by decide), z32_id (x := e + 1) (by omega) (by omega)]
      refine ⟨fun z => by omega, fun _ => ?_⟩
      rcases hq with ⟨q1, q2⟩ | ⟨q1, q2⟩
      · refine ⟨fun z => by omega, fun _ => m_nameAt h hS hb hB hi hk (by omega) ⟨fun z => ih (e + 1) 0 (by omega) (by omega) (Or.inr ⟨rfl, e, hi, hk, ⟨e1, by omega⟩, z⟩), fun z => ih (e + 1) 1 (by omega) (by omega) (Or.inl ⟨rfl, fun y y0 y1 => ?_⟩)⟩⟩
        by_cases c : y = e
        · rw [c]; exact Classical.not_not.mp z
        · exact q2 y y0 (by omega)
      · exact ⟨fun _ => ih (e + 1) 0 (by omega) (by omega) (Or.inr ⟨rfl, q2⟩), fun z => absurd q1 z⟩
  exact v_239 (key (A.1 (20 * i + 1) / 4).toNat 0 1 (by omega) (by omega) (Or.inl ⟨rfl, fun y y0 y1 => by omega⟩))
end RELEASE
