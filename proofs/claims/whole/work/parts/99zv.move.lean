/-! move: the tree. -/
section MOVE
variable {d w r : Int} {t : Nat} {L : Int → Int} {H G F M X : zHp} {Qr Qt : Int → zS → Prop} {A A' : aSt} {x nm to tn B : Int} {β : Int → Int}
noncomputable def aMov (B : Int) (A : aSt) (x nm to tn : Int) : Int × aSt := if aFault A x 2 < 0 then (aFault A x 2, A) else if aEnt A x nm = -1 then (-1, A) else if aFault A to 2 < 0 then (aFault A to 2, A) else if aEnt A to tn ≠ -1 ∧ to = x ∧ aEnt A to tn = aEnt A x nm then (0, A) else if aEnt A to tn ≠ -1 ∧ A.1 (20 * aNo A x (aEnt A x nm)) ≠ A.1 (20 * aNo A to (aEnt A to tn)) then (-5, A) else @ite _ (aEnt A to tn ≠ -1 ∧ ∃ e, aNd A (aNo A to (aEnt A to tn)) e) (Classical.propDecidable _) (-6, A) (@ite _ (A.1 (20 * aNo A x (aEnt A x nm)) = 2 ∧ ∃ n, aUp A n to = aNo A x (aEnt A x nm)) (Classical.propDecidable _) (-7, A) (if aEnt A to tn = -1 then (match aAdd B (aEnter A x (aEnt A x nm) 0 0) to tn (aNo A x (aEnt A x nm)) with
    | none => (-4, A)
    | some A' => (0, A')) else (0, aEnter (aFree (aEnter A x (aEnt A x nm) 0 0) (aNo A to (aEnt A to tn))) to (aEnt A to tn) tn (aNo A x (aEnt A x nm)))))
theorem aUp_dir {i : Int} (hk : A.1 (20 * to) = 2) (hi : 0 ≤ i) {n : Nat} (h : aUp A n to = i) : A.1 (20 * i) = 2 := by
  cases n with
  | zero =>
    have h : to = i := h
    rw [← h]; exact hk
  | succ n =>
    rw [aUp_succ] at h
    by_cases c : aUp A n to = -1
    · rw [if_pos c] at h; omega
    · rw [if_neg c] at h
      rcases aPar_rg A (aUp A n to) with u | ⟨-, e, u, -⟩
      · omega
      · rw [h] at u
        exact u.2.1
theorem aEnt_sm {d' nm' : Int} (h : aSm A A' d') (g : aG B A) (hd : 0 ≤ d' ∧ d' < 64) : aEnt A' d' nm' = aEnt A d' nm' := by
  unfold aEnt
  rw [h.1 (20 * d' + 1) (by omega) (by omega)]
  have s0 := (g.1.1 d' hd.1 hd.2).2.1.1
  refine gFirst_congr _ _ (fun e e0 e1 => ?_)
  have rm := g.room hd (e := e) ⟨e0, by omega⟩
  unfold aNm
  rw [h.get g.1.1 hd ⟨by omega, by omega⟩, h.get g.1.1 hd ⟨by omega, by omega⟩]
theorem aMov_add {e i : Int} (g : aGood B A) (hB : 96 ≤ B ∧ B ≤ 768) (hx : 0 ≤ x ∧ x < 64) (ht : 0 ≤ to ∧ to < 64) (kt : A.1 (20 * to) = 2) (htn : 1 ≤ tn ∧ tn ≤ 65535) (lv : aNd A x e) (hi : aNo A x e = i) (na : ¬ ∃ n, aUp A n to = i) (h : aAdd B (aEnter A x e 0 0) to tn i = some A') : aGood B A' := by
  have tr := g.2.2.2.2.2
  have i1 := tr.1 x e lv
  rw [hi] at i1
  have kd := lv.2.1
  have he := lv.2.2.1
  obtain ⟨g1, s1⟩ := aEnter_go (nm := 0) (ino := 0) g.go hx kd he
  have nd1 : ∀ d' e', aNd (aEnter A x e 0 0) d' e' → ¬ (d' = x ∧ e' = e) ∧ aNd A d' e' ∧ aNo (aEnter A x e 0 0) d' e' = aNo A d' e' := fun d' e' u => by
    have c : ¬ (d' = x ∧ e' = e) := fun c => by
      rw [c.1, c.2] at u
      exact u.2.2.2 (aEnter_self (nm := 0) (ino := 0) g.1.1 hx ⟨he.1, g.1.room hx he⟩ (by decide) (by decide)).1
    have q := aEnter_nd (nm := 0) (ino := 0) g.1 hx he c
    exact ⟨c, q.1.mp u, q.2 (q.1.mp u)⟩
  obtain ⟨q1, q2, q3, e2, ⟨q4, q5⟩, q6⟩ := aAdd_sp g1 hB ht kt htn (by omega) h
  have kk : ∀ j, A.1 (20 * j) ≠ 0 → A'.1 (20 * j) ≠ 0 := fun j hj => by
    by_cases c : j = to
    · rw [c, q3]; decide
    · rw [q2 _ (by omega)]; exact hj
  have nd : ∀ d' e', aNd A' d' e' → ¬ (d' = to ∧ e' = e2) → ¬ (d' = x ∧ e' = e) ∧ aNd A d' e' ∧ aNo A' d' e' = aNo A d' e' := fun d' e' u c => by
    have v := (q6 d' e' c).1.mp u
    obtain ⟨v1, v2, v3⟩ := nd1 d' e' v
    exact ⟨v1, v2, by rw [(q6 d' e' c).2 v, v3]⟩
  have no : ∀ d' e', aNd A' d' e' → ¬ (d' = to ∧ e' = e2) → aNo A' d' e' ≠ i := fun d' e' u c z => by
    obtain ⟨v1, v2, v3⟩ := nd d' e' u c
    exact v1 (tr.2.1 d' e' x e v2 lv (by rw [hi, ← v3]; exact z))
  refine q1.good (aTr_add (d := to) (j := i) tr (fun d' e' u => ?_) (fun d1 e1 d2 e2' u1 u2 ue => ?_) (fun d' e' u => ?_) na)
  · by_cases c : d' = to ∧ e' = e2
    · rw [c.1, c.2, q5]
      exact ⟨i1.1, kk i i1.2⟩
    · obtain ⟨-, v2, v3⟩ := nd d' e' u c
      rw [v3]
      have := tr.1 d' e' v2
      exact ⟨this.1, kk _ this.2⟩
  · by_cases ca : d1 = to ∧ e1 = e2
    · by_cases cb : d2 = to ∧ e2' = e2
      · omega
      · rw [ca.1, ca.2, q5] at ue
        exact absurd ue.symm (no d2 e2' u2 cb)
    · by_cases cb : d2 = to ∧ e2' = e2
      · rw [cb.1, cb.2, q5] at ue
        exact absurd ue (no d1 e1 u1 ca)
      · obtain ⟨-, v2, v3⟩ := nd d1 e1 u1 ca
        obtain ⟨-, w2, w3⟩ := nd d2 e2' u2 cb
        rw [v3, w3] at ue
        exact tr.2.1 d1 e1 d2 e2' v2 w2 ue
  · by_cases c : d' = to ∧ e' = e2
    · exact Or.inr ⟨c.1, by rw [c.1, c.2, q5]⟩
    · exact Or.inl (nd d' e' u c).2
theorem aMov_over {e i j e2 : Int} (g : aGood B A) (hx : 0 ≤ x ∧ x < 64) (ht : 0 ≤ to ∧ to < 64) (htn : 1 ≤ tn ∧ tn ≤ 65535) (lv : aNd A x e) (hi : aNo A x e = i) (lt : aNd A to e2) (hj : aNo A to e2 = j) (ij : i ≠ j) (xj : x ≠ j) (na : ¬ ∃ n, aUp A n to = i) : aGood B (aEnter (aFree (aEnter A x e 0 0) j) to e2 tn i) := by
  have tr := g.2.2.2.2.2
  have i1 := tr.1 x e lv
  rw [hi] at i1
  have j1 := (tr.1 to e2 lt).1
  have tj := tr.ne lt
  rw [hj] at j1 tj
  have kd := lv.2.1
  have he := lv.2.2.1
  obtain ⟨g1, s1⟩ := aEnter_go (nm := 0) (ino := 0) g.go hx kd he
  obtain ⟨g2, s2⟩ := aFree_go g1 j1
  have kt : (aFree (aEnter A x e 0 0) j).1 (20 * to) = 2 := by rw [aFree_nz (by omega)]; exact lt.2.1
  have ht2 : 0 ≤ e2 ∧ e2 < (aFree (aEnter A x e 0 0) j).1 (20 * to + 1) / 4 := by rw [aFree_nz (by omega)]; exact lt.2.2.1
  obtain ⟨g3, s3⟩ := aEnter_go (nm := tn) (ino := i) g2 ht kt ht2
  have se := aEnter_self (nm := tn) (ino := i) g2.1.1 ht ⟨ht2.1, g2.1.room ht ht2⟩ (by omega) (by omega)
  have nd : ∀ d' e', aNd (aEnter (aFree (aEnter A x e 0 0) j) to e2 tn i) d' e' → ¬ (d' = to ∧ e' = e2) → ¬ (d' = x ∧ e' = e) ∧ aNd A d' e' ∧ aNo (aEnter (aFree (aEnter A x e 0 0) j) to e2 tn i) d' e' = aNo A d' e' := fun d' e' u c => by
    have q := aEnter_nd (nm := tn) (ino := i) g2.1 ht ht2 c
    have u2 := q.1.mp u
    have cd : d' ≠ j := fun z => by
      have k := u2.2.1
      rw [z, aFree_z (by omega)] at k
      exact absurd k (by decide)
    have q2 := (s2 d' u.1.1 u.1.2 cd).nd (e := e') g1.1
    have u3 := q2.1.mp u2
    have c3 : ¬ (d' = x ∧ e' = e) := fun c => by
      rw [c.1, c.2] at u3
      exact u3.2.2.2 (aEnter_self (nm := 0) (ino := 0) g.1.1 hx ⟨he.1, g.1.room hx he⟩ (by decide) (by decide)).1
    have q3 := aEnter_nd (nm := 0) (ino := 0) g.1 hx he c3
    have u4 := q3.1.mp u3
    exact ⟨c3, u4, by rw [q.2 u2, q2.2 u3, q3.2 u4]⟩
  have kk : ∀ y, y ≠ j → A.1 (20 * y) ≠ 0 → (aEnter (aFree (aEnter A x e 0 0) j) to e2 tn i).1 (20 * y) ≠ 0 := fun y hy u => by
    show (aFree (aEnter A x e 0 0) j).1 (20 * y) ≠ 0
    rw [aFree_nz (by omega)]
    exact u
  have no : ∀ d' e', aNd (aEnter (aFree (aEnter A x e 0 0) j) to e2 tn i) d' e' → ¬ (d' = to ∧ e' = e2) → aNo (aEnter (aFree (aEnter A x e 0 0) j) to e2 tn i) d' e' ≠ i := fun d' e' u c z => by
    obtain ⟨v1, v2, v3⟩ := nd d' e' u c
    exact v1 (tr.2.1 d' e' x e v2 lv (by rw [hi, ← v3]; exact z))
  refine g3.good (aTr_add (d := to) (j := i) tr (fun d' e' u => ?_) (fun d1 e1 d2 e2' u1 u2 ue => ?_) (fun d' e' u => ?_) na)
  · by_cases c : d' = to ∧ e' = e2
    · rw [c.1, c.2, se.2]
      exact ⟨i1.1, kk i ij i1.2⟩
    · obtain ⟨-, v2, v3⟩ := nd d' e' u c
      rw [v3]
      have := tr.1 d' e' v2
      exact ⟨this.1, kk _ (fun z => c (tr.2.1 d' e' to e2 v2 lt (by rw [hj]; exact z))) this.2⟩
  · by_cases ca : d1 = to ∧ e1 = e2
    · by_cases cb : d2 = to ∧ e2' = e2
      · omega
      · rw [ca.1, ca.2, se.2] at ue
        exact absurd ue.symm (no d2 e2' u2 cb)
    · by_cases cb : d2 = to ∧ e2' = e2
      · rw [cb.1, cb.2, se.2] at ue
        exact absurd ue (no d1 e1 u1 ca)
      · obtain ⟨-, v2, v3⟩ := nd d1 e1 u1 ca
        obtain ⟨-, w2, w3⟩ := nd d2 e2' u2 cb
        rw [v3, w3] at ue
        exact tr.2.1 d1 e1 d2 e2' v2 w2 ue
  · by_cases c : d' = to ∧ e' = e2
    · exact Or.inr ⟨c.1, by rw [c.1, c.2, se.2]⟩
    · exact Or.inl (nd d' e' u c).2
theorem aMov_good (g : aGood B A) (hB : 96 ≤ B ∧ B ≤ 768) (hx : 0 ≤ x ∧ x < 64) (hnm : 1 ≤ nm ∧ nm ≤ 65535) (ht : 0 ≤ to ∧ to < 64) (htn : 1 ≤ tn ∧ tn ≤ 65535) : aGood B (aMov B A x nm to tn).2 := by
  unfold aMov
  by_cases c1 : aFault A x 2 < 0
  · rw [if_pos c1]; exact g
  rw [if_neg c1]
  by_cases c2 : aEnt A x nm = -1
  · rw [if_pos c2]; exact g
  rw [if_neg c2]
  by_cases c3 : aFault A to 2 < 0
  · rw [if_pos c3]; exact g
  rw [if_neg c3]
  by_cases c4 : aEnt A to tn ≠ -1 ∧ to = x ∧ aEnt A to tn = aEnt A x nm
  · rw [if_pos c4]; exact g
  rw [if_neg c4]
  by_cases c5 : aEnt A to tn ≠ -1 ∧ A.1 (20 * aNo A x (aEnt A x nm)) ≠ A.1 (20 * aNo A to (aEnt A to tn))
  · rw [if_pos c5]; exact g
  rw [if_neg c5]
  by_cases c6 : aEnt A to tn ≠ -1 ∧ ∃ e, aNd A (aNo A to (aEnt A to tn)) e
  · rw [if_pos c6]; exact g
  rw [if_neg c6]
  by_cases c7 : A.1 (20 * aNo A x (aEnt A x nm)) = 2 ∧ ∃ n, aUp A n to = aNo A x (aEnt A x nm)
  · rw [if_pos c7]; exact g
  rw [if_neg c7]
  have kd := (aFault_0 c1).1
  have kt := (aFault_0 c3).1
  have lv := aEnt_live hx kd (by omega) c2
  have tr := g.2.2.2.2.2
  have i1 := (tr.1 _ _ lv).1
  have na : ¬ ∃ n, aUp A n to = aNo A x (aEnt A x nm) := fun ⟨n, hn⟩ => c7 ⟨aUp_dir kt (by omega) hn, n, hn⟩
  by_cases c8 : aEnt A to tn = -1
  · rw [if_pos c8]
    cases ha : aAdd B (aEnter A x (aEnt A x nm) 0 0) to tn (aNo A x (aEnt A x nm)) with
    | none => exact g
    | some A' => exact aMov_add g hB hx ht kt htn lv rfl na ha
  · rw [if_neg c8]
    have lt := aEnt_live ht kt (by omega) c8
    refine aMov_over g hx ht htn lv rfl lt rfl (fun z => c4 ⟨c8, ?_⟩) (fun z => c6 ⟨c8, ?_⟩) na
    · have := tr.2.1 _ _ _ _ lt lv z.symm
      exact this
    · rw [← z]; exact ⟨_, lv⟩
end MOVE
