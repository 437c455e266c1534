/-! move: class and reference. -/
section MOVE2
variable {d w r : Int} {t : Nat} {L : Int → Int} {H G F M X : zHp} {Qr Qt : Int → zS → Prop} {A A' : aSt} {x nm to tn B : Int} {β : Int → Int}
/-- Tree.moveEntry where an entry is replaced -/
theorem t_over {e i j e2 : Int} (h : fS F B 0 [] β L H) (hE : aE B A β) (g : aGood B A) (hx : 0 ≤ x ∧ x < 64) (ht : 0 ≤ to ∧ to < 64) (htn : 1 ≤ tn ∧ tn ≤ 65535) (lv : aNd A x e) (lt : aNd A to e2) (he2 : aEnt A to tn = e2) (hj : aNo A to e2 = j) (xj : x ≠ j) (ne : ¬ (to = x ∧ e2 = e)) (hQ : ∀ n' X' β' H', fS F B n' X' β' L H' → aE B (aEnter (aFree (aEnter A x e 0 0) j) to e2 tn i) β' → Qr 0 (t, L, H')) :
    zEnds 80 119 0 [(26, 26), (0, j), (9, 0), (9, 0), (9, 0), (9, 0), (9, 0)] [] (t, L, H) (fun v4 S4 => zEnds 80 122 0 [(27, 27), (0, to), (0, tn), (9, 0), (9, 0), (9, 0), (9, 0)] [] S4 (fun v5 S5 => zEnds 80 124 0 [(27, 27), (0, to), (0, v5), (0, tn), (0, i), (9, 0)] [] S5 (fun v6 S6 => zEnds 80 124 0 [(27, 27), (0, x), (0, e), (0, 0), (0, 0), (9, 0)] [] S6 (fun v7 S7 => Qr 0 S7) Qt) Qt) Qt) Qt := by
  have tr := g.2.2.2.2.2
  have j1 := (tr.1 to e2 lt).1
  have tj := tr.ne lt
  rw [hj] at j1 tj
  have h3 := ((h.more (b := 58) (by decide)).more (b := 57) (by decide)).more (b := 25 + j / 2) (by decide)
  obtain ⟨g1, s1⟩ := aFree_go g.go j1
  have nz : ∀ y, (y = to ∨ y = x) → (aFree A j).1 (20 * y) = A.1 (20 * y) ∧ (aFree A j).1 (20 * y + 1) = A.1 (20 * y + 1) := fun y hy => ⟨aFree_nz (by omega), aFree_nz (by omega)⟩
  have kt : (aFree A j).1 (20 * to) = 2 := by rw [(nz to (Or.inl rfl)).1]; exact lt.2.1
  have kx : (aFree A j).1 (20 * x) = 2 := by rw [(nz x (Or.inr rfl)).1]; exact lv.2.1
  have ht2 : 0 ≤ e2 ∧ e2 < (aFree A j).1 (20 * to + 1) / 4 := by rw [(nz to (Or.inl rfl)).2]; exact lt.2.2.1
  have hx2 : 0 ≤ e ∧ e < (aFree A j).1 (20 * x + 1) / 4 := by rw [(nz x (Or.inr rfl)).2]; exact lv.2.2.1
  refine n_release h3 hE g.1 (by omega) ⟨List.mem_cons_self, List.mem_cons_of_mem _ List.mem_cons_self, List.mem_cons_of_mem _ (List.mem_cons_of_mem _ List.mem_cons_self)⟩ (fun β1 H1 h1 hE1 => t_entryOf h1 hE1 g1.1.s ht kt ?_)
  rw [aEnt_sm (s1 to ht.1 ht.2 (Ne.symm tj)) g.1 ht, he2]
  obtain ⟨g2, s2⟩ := aEnter_go (nm := tn) (ino := i) g1 ht kt ht2
  refine t_setEntry h1 hE1 g1.1.s ht kt ht2 (by omega) (by decide) (fun β2 H2 h2 hE2 => t_setEntry h2 hE2 g2.1.s hx kx hx2 (by decide) (by decide) (fun β3 H3 h3 hE3 => hQ _ _ β3 H3 h3 ?_))
  rw [← aEnter_free g.1.1.1 hx xj, aEnter_comm g1.1.1 hx ht ⟨hx2.1, g1.1.room hx hx2⟩ ⟨ht2.1, g1.1.room ht ht2⟩ ne]
  exact hE3
/-- Tree.moveEntry -/
theorem t_moveEntry (hL : L 28 = 64) (h : fS F B 0 [] β L H) (hE : aE B A β) (g : aGood B A) (hx : 0 ≤ x ∧ x < 64) (hnm : 1 ≤ nm ∧ nm ≤ 65535) (ht : 0 ≤ to ∧ to < 64) (htn : 1 ≤ tn ∧ tn ≤ 65535) (hQ : tPost F B t L (aMov B A x nm to tn) Qr) : zEnds 80 131 0 [(27, 27), (0, x), (0, nm), (0, to), (0, tn), (9, 0), (9, 0), (9, 0), (9, 0)] [] (t, L, H) Qr Qt := by
  have hB := h.1.1
  have tr := g.2.2.2.2.2
  refine v_131 (t_inodeOf h hE g.1.s hx ?_)
  unfold aMov at hQ
  unfold aFind
  by_cases c1 : aFault A x 2 < 0
  · rw [if_pos c1] at hQ ⊢
    exact ⟨fun u => by omega, fun _ => hQ 0 [] β H h (fun _ => hE)⟩
  rw [if_neg c1] at hQ ⊢
  by_cases c2 : aEnt A x nm = -1
  · rw [if_pos c2] at hQ ⊢
    exact ⟨fun u => absurd u (by decide), fun _ => hQ 0 [] β H h (fun _ => hE)⟩
  rw [if_neg c2] at hQ ⊢
  have kd := (aFault_0 c1).1
  have lv := aEnt_live hx kd (by omega) c2
  have i1 := (tr.1 _ _ lv).1
  have he := (aEnt_rg c2).1
  rw [Int.emod_eq_of_lt (by omega) i1.2]
  refine ⟨fun _ => t_inodeOf h hE g.1.s ht (t_faultOf h hE ht ?_), fun u => absurd (by omega) u⟩
  unfold aFind
  by_cases c3 : aFault A to 2 < 0
  · rw [if_pos c3] at hQ ⊢
    exact ⟨fun _ => v_131_45 (hQ 0 [] β H h (fun _ => hE)), fun u => absurd c3 u⟩
  rw [if_neg c3] at hQ ⊢
  have kt := (aFault_0 c3).1
  have f0 : aFault A to 2 = 0 := by rcases aFault_le A to 2 with u | u | u <;> omega
  refine ⟨fun u => absurd u c3, fun _ => ?_⟩
  rw [f0]
  -- behind the faults
  have go : (aEnt A to tn ≠ -1 → ¬ (to = x ∧ aEnt A to tn = aEnt A x nm) ∧ A.1 (20 * aNo A x (aEnt A x nm)) = A.1 (20 * aNo A to (aEnt A to tn)) ∧ ¬ ∃ e, aNd A (aNo A to (aEnt A to tn)) e) → ∀ v2, (aEnt A to tn = -1 → v2 < 0) → (aEnt A to tn ≠ -1 → v2 = aNo A to (aEnt A to tn)) → zEnds 80 131 63 [(27, 27), (0, x), (0, nm), (0, to), (0, tn), (0, aNo A x (aEnt A x nm)), (0, v2), (0, 0), (9, 0)] [] (t, L, H) Qr Qt := by
    intro hc v2 hv1 hv2
    rw [if_neg (fun u => (hc u.1).1 u.2), if_neg (fun u => u.2 (hc u.1).2.1), if_neg (fun u => (hc u.1).2.2 u.2)] at hQ
    refine v_131_63 ⟨fun z => absurd rfl z, fun _ => t_comes h hL hE g (by omega) ht (fun c7 H' h' => ⟨fun z => absurd z (by decide), fun _ => v_131_82 ⟨fun z => absurd z (by decide), fun _ => ?_⟩⟩) (fun c7 H' h' => ⟨fun _ => v_131_82 ⟨fun _ => t_entryOf h' hE g.1.s hx kd ⟨fun z => ?_, fun z => ?_⟩, fun z => absurd (by decide) z⟩, fun z => absurd rfl z⟩)⟩
    · rw [if_pos c7] at hQ
      exact hQ 0 [] β H' h' (fun y => absurd y (by show ¬ (0 : Int) ≤ -7; decide))
    · have c8 : aEnt A to tn = -1 := by
        apply Classical.byContradiction
        intro c8
        have := hv2 c8
        have := (tr.1 _ _ (aEnt_live ht kt (by omega) c8)).1
        omega
      rw [if_neg c7, if_pos c8] at hQ
      have h3 := ((h'.more (b := 58) (by decide)).more (b := 57) (by decide)).more (b := 25 + to / 2) (by decide)
      refine t_setEntry h3 hE g.1.s hx kd he (by decide) (by decide) (fun β1 H1 h1 hE1 => t_addEntry h1 hE1 (aEnter_go g.go hx kd he).1.1 ht kt ⟨List.mem_cons_of_mem _ List.mem_cons_self, List.mem_cons_of_mem _ (List.mem_cons_of_mem _ List.mem_cons_self), List.mem_cons_of_mem _ (List.mem_cons_of_mem _ (List.mem_cons_of_mem _ List.mem_cons_self))⟩ (by decide) (by omega) (fun ea => ⟨fun _ => ?_, fun z => absurd rfl z⟩) (fun A' n' X' β' H2 ea _ _ h2 hE2 => ⟨fun z => absurd z (by decide), fun _ => ?_⟩))
      · rw [ea] at hQ
        exact hQ _ _ β1 H1 h1 (fun y => absurd y (by show ¬ (0 : Int) ≤ -4; decide))
      · rw [ea] at hQ
        exact hQ _ _ β' H2 h2 (fun _ => hE2)
    · have c8 : aEnt A to tn ≠ -1 := fun c8 => z (hv1 c8)
      rw [if_neg c7, if_neg c8] at hQ
      have lt := aEnt_live ht kt (by omega) c8
      have ev := hv2 c8
      subst ev
      exact t_over h' hE g hx ht htn lv lt rfl rfl (fun z2 => (hc c8).2.2 (by rw [← z2]; exact ⟨_, lv⟩)) (hc c8).1 (fun n' X' β' H2 h2 hE2 => hQ n' X' β' H2 h2 (fun _ => hE2))
  by_cases c8 : aEnt A to tn = -1
  · rw [if_pos c8]
    exact ⟨fun _ => ⟨fun _ => go (fun z => absurd c8 z) (-1) (fun _ => by decide) (fun z => absurd c8 z), fun z => absurd (by decide) z⟩, fun z => absurd (by omega) z⟩
  · rw [if_neg c8]
    have lt := aEnt_live ht kt (by omega) c8
    have j1 := (tr.1 _ _ lt).1
    rw [Int.emod_eq_of_lt (by omega) j1.2]
    refine ⟨fun ne => ⟨fun z => absurd z (by omega), fun _ => v_132 (n_kind h (hE.1 _ (by omega) i1.2) (by omega) (n_kind h (hE.1 _ (by omega) j1.2) (by omega) ⟨fun ek => t_hasEntries h hE g.1.s (by omega) (fun c6 => ⟨fun z => absurd z (by decide), fun _ => ?_⟩) (fun c6 => ⟨fun _ => ?_, fun z => absurd rfl z⟩), fun ek => ?_⟩))⟩, fun eq => v_131_45 ?_⟩
    · rw [if_neg (fun u => ne (by rw [u.2.2, u.2.1])), if_neg (fun u => u.2 ek), if_pos ⟨c8, c6⟩] at hQ
      exact v_131_63 ⟨fun _ => v_131_82 ⟨fun z => absurd z (by decide), fun _ => hQ 0 [] β H h (fun y => absurd y (by show ¬ (0 : Int) ≤ -6; decide))⟩, fun z => absurd (by decide) z⟩
    · exact go (fun _ => ⟨fun u => ne (by rw [u.2, u.1]), ek, c6⟩) _ (fun z => absurd z c8) (fun _ => rfl)
    · rw [if_neg (fun u => ne (by rw [u.2.2, u.2.1])), if_pos ⟨c8, ek⟩] at hQ
      exact v_131_63 ⟨fun _ => v_131_82 ⟨fun z => absurd z (by decide), fun _ => hQ 0 [] β H h (fun y => absurd y (by show ¬ (0 : Int) ≤ -5; decide))⟩, fun z => absurd (by decide) z⟩
    · have eq := Classical.not_not.mp eq
      have uu := tr.2.1 _ _ _ _ lt lv eq
      rw [if_pos ⟨c8, uu⟩] at hQ
      exact hQ 0 [] β H h (fun _ => hE)
/-- DiskPoolModel.moves -/
theorem m_moves (h : mA d w r G A L H) (g : aGood (r * gGr d w * (w - 1)) A) (hx : 0 ≤ x ∧ x < 64) (hnm : 1 ≤ nm ∧ nm ≤ 65535) (ht : 0 ≤ to ∧ to < 64) (htn : 1 ≤ tn ∧ tn ≤ 65535) (hQ : mPost d w r G t L (aMov (r * gGr d w * (w - 1)) A x nm to tn) Qr) : zEnds 118 246 0 [(29, 35), (0, x), (0, nm), (0, to), (0, tn), (9, 0), (9, 0), (9, 0), (9, 0), (9, 0)] [] (t, L, H) Qr Qt := by
  have hB : 96 ≤ r * gGr d w * (w - 1) ∧ r * gGr d w * (w - 1) ≤ 768 := ⟨gBl_ge h.1.1, gBl_le h.1.1⟩
  have tr := g.2.2.2.2.2
  have kx := (g.1.1.1 x hx.1 hx.2).1
  have kto := (g.1.1.1 to ht.1 ht.2).1
  have e1 : ∀ y z, ¬ 0 ≤ aEnt A y z → aEnt A y z = -1 := fun y z u => by
    apply Classical.byContradiction
    intro c
    have := (aEnt_rg c).1
    omega
  unfold aMov at hQ
  refine v_246 (m_badDirectory h hx kx ⟨fun u => ?_, fun u => m_badDirectory h hx kx ?_⟩)
  · have c1 : ¬ aFault A x 2 < 0 := by omega
    rw [if_neg c1] at hQ
    have kd := (aFault_0 c1).1
    refine m_entryOf h g.1.s g.2.1 hB.2 hx kd ⟨fun u2 => ?_, fun u2 => ?_⟩
    · have c2 : aEnt A x nm ≠ -1 := by omega
      rw [if_neg c2] at hQ
      have lv := aEnt_live hx kd (by omega) c2
      have i1 := (tr.1 _ _ lv).1
      have he := (aEnt_rg c2).1
      refine m_inodeAt h g.1.s hB.2 hx kd he (m_badDirectory h ht kto ⟨fun u3 => ?_, fun u3 => m_badDirectory h ht kto ?_⟩)
      · have c3 : ¬ aFault A to 2 < 0 := by omega
        rw [if_neg c3] at hQ
        have kt := (aFault_0 c3).1
        have hi : 0 ≤ aNo A x (aEnt A x nm) ∧ aNo A x (aEnt A x nm) < 64 := by omega
        obtain ⟨ge, se⟩ := aEnter_go (nm := 0) (ino := 0) g.go hx kd he
        -- from the climb on
        have go : (aEnt A to tn ≠ -1 → ¬ (to = x ∧ aEnt A to tn = aEnt A x nm) ∧ A.1 (20 * aNo A x (aEnt A x nm)) = A.1 (20 * aNo A to (aEnt A to tn)) ∧ ¬ ∃ e, aNd A (aNo A to (aEnt A to tn)) e) → ∀ v2, (aEnt A to tn = -1 → v2 < 0) → (aEnt A to tn ≠ -1 → v2 = aNo A to (aEnt A to tn)) → zEnds 118 246 148 [(29, 35), (0, x), (9, 0), (0, to), (0, tn), (0, aEnt A x nm), (0, aNo A x (aEnt A x nm)), (0, aEnt A to tn), (0, v2), (9, 0)] [] (t, L, H) Qr Qt := by
          intro hc v2 hv1 hv2
          rw [if_neg (fun u => (hc u.1).1 u.2), if_neg (fun u => u.2 (hc u.1).2.1), if_neg (fun u => (hc u.1).2.2 u.2)] at hQ
          have fin : ¬ (A.1 (20 * aNo A x (aEnt A x nm)) = 2 ∧ ∃ n, aUp A n to = aNo A x (aEnt A x nm)) → zEnds 118 246 187 [(29, 35), (0, x), (9, 0), (0, to), (0, tn), (0, aEnt A x nm), (0, aNo A x (aEnt A x nm)), (0, aEnt A to tn), (0, v2), (9, 0)] [] (t, L, H) Qr Qt := by
            intro c7
            rw [if_neg c7] at hQ
            refine v_246_187 (m_enters h g.1.s hB.2 hx kd he (by decide) (by decide) (fun H1 h1 => ⟨fun z => ?_, fun z => ?_⟩))
            · have c8 : aEnt A to tn ≠ -1 := fun c8 => absurd (hv1 c8) (by omega)
              rw [if_neg c8] at hQ
              have lt := aEnt_live ht kt (by omega) c8
              have j1 := (tr.1 _ _ lt).1
              have tj := tr.ne lt
              have ev := hv2 c8
              subst ev
              obtain ⟨g2, s2⟩ := aFree_go ge j1
              exact m_frees h1 ge.1 hB.2 (by omega) (fun H2 h2 => m_enters h2 g2.1.s hB.2 ht (by rw [aFree_nz (by omega)]; exact kt) (by rw [aFree_nz (by omega)]; exact lt.2.2.1) (by omega) (by omega) (fun H3 h3 => hQ _ H3 h3 (fun _ => rfl)))
            · have c8 : aEnt A to tn = -1 := by
                apply Classical.byContradiction
                intro c8
                have := hv2 c8
                have := (tr.1 _ _ (aEnt_live ht kt (by omega) c8)).1
                omega
              rw [if_pos c8] at hQ
              refine m_adds h1 ge.1 ge.2.1 ge.2.2.1.p hB.1 ht kt (by omega) (by omega) (fun ea A' H2 h2 => ⟨fun _ => ?_, fun z => absurd rfl z⟩) (fun A' H2 ea h2 => ⟨fun z => absurd z (by decide), fun _ => ?_⟩)
              · rw [ea] at hQ
                exact hQ A' H2 h2 (fun y => absurd y (by show ¬ (0 : Int) ≤ -4; decide))
              · rw [ea] at hQ
                exact hQ A' H2 h2 (fun _ => rfl)
          have key : ∀ (m k : Nat), k + m = 65 → (∀ j, j < k → aUp A j to ≠ aNo A x (aEnt A x nm)) → zEnds 118 246 151 [(29, 35), (0, x), (9, 0), (0, to), (0, tn), (0, aEnt A x nm), (0, aNo A x (aEnt A x nm)), (0, aEnt A to tn), (0, v2), (0, aUp A k to)] [] (t, L, H) Qr Qt := by
            intro m
            induction m with
            | zero =>
              intro k hk hb
              have z : aUp A k to = -1 := by
                apply Classical.byContradiction
                intro c
                have := (aUp_short tr ht c).1
                omega
              rw [z]
              refine v_246_151 ⟨fun _ => fin (fun ⟨_, j, hj⟩ => ?_), fun y => absurd (by decide) y⟩
              rcases Nat.lt_or_ge j k with v | v
              · exact hb j v hj
              · have := aUp_stays z v
                omega
            | succ m ih =>
              intro k hk hb
              refine v_246_151 ⟨fun y => fin (fun ⟨_, j, hj⟩ => ?_), fun y => m_kind h hi ⟨fun k2 => fin (fun q => k2 q.1), fun k2 => ⟨fun ne => ?_, fun eq => ?_⟩⟩⟩
              · have z : aUp A k to = -1 := by
                  apply Classical.byContradiction
                  intro c
                  have := (aUp_short tr ht c).2
                  omega
                rcases Nat.lt_or_ge j k with v | v
                · exact hb j v hj
                · have := aUp_stays z v
                  omega
              · have z : aUp A k to ≠ -1 := by omega
                have rg := (aUp_short tr ht z).2
                refine m_parentOf h g hB.2 rg ?_
                have q := ih (k + 1) (by omega) (fun j hj => by
                  by_cases c : j = k
                  · rw [c]; exact ne
                  · exact hb j (by omega))
                rw [aUp_succ, if_neg z] at q
                exact q
              · rw [if_pos ⟨Classical.not_not.mp k2, k, Classical.not_not.mp eq⟩] at hQ
                exact hQ A H h (fun _ => rfl)
          exact v_246_148 (key 65 0 (by decide) (fun j hj => by omega))
        refine m_entryOf h g.1.s g.2.1 hB.2 ht kt ?_
        by_cases c8 : aEnt A to tn = -1
        · refine ⟨fun _ => v_246_80 ⟨fun z => absurd z (by omega), fun _ => ⟨fun _ => v_246_121 ⟨fun _ => go (fun z => absurd c8 z) (-1) (fun _ => by decide) (fun z => absurd c8 z), fun z => absurd (by decide) z⟩, fun z => absurd (by decide) z⟩⟩, fun z => absurd (by omega) z⟩
        · have lt := aEnt_live ht kt (by omega) c8
          have j1 := (tr.1 _ _ lt).1
          have ht2 := (aEnt_rg c8).1
          have hj : 0 ≤ aNo A to (aEnt A to tn) ∧ aNo A to (aEnt A to tn) < 64 := by omega
          have o80 : ¬ (to = x ∧ aEnt A to tn = aEnt A x nm) → zEnds 118 246 80 [(29, 35), (0, x), (9, 0), (0, to), (0, tn), (0, aEnt A x nm), (0, aNo A x (aEnt A x nm)), (0, aEnt A to tn), (9, 0), (9, 0)] [] (t, L, H) Qr Qt := by
            intro ne
            refine v_246_80 ⟨fun _ => m_inodeAt h g.1.s hB.2 ht kt ht2 ⟨fun z => absurd z (by omega), fun _ => m_kind h hi (m_kind h hj ⟨fun ek => v_246_121 ⟨fun z => absurd z (by omega), fun _ => m_kind h hj ⟨fun k2 => go (fun _ => ⟨ne, ek, fun ⟨e, q⟩ => k2 q.2.1⟩) _ (fun z => absurd z c8) (fun _ => rfl), fun k2 => m_isEmpty h g.1.s g.2.1 hB.2 hj (Classical.not_not.mp k2) (fun c6 => ⟨fun _ => go (fun _ => ⟨ne, ek, c6⟩) _ (fun z => absurd z c8) (fun _ => rfl), fun z => absurd (by decide) z⟩) (fun c6 => ⟨fun z => absurd rfl z, fun _ => ?_⟩)⟩⟩, fun ek => ?_⟩)⟩, fun z => absurd ht2.1 z⟩
            · rw [if_neg (fun q => ne q.2), if_neg (fun q => q.2 ek), if_pos ⟨c8, c6⟩] at hQ
              exact hQ A H h (fun y => absurd y (by show ¬ (0 : Int) ≤ -6; decide))
            · rw [if_neg (fun q => ne q.2), if_pos ⟨c8, ek⟩] at hQ
              exact hQ A H h (fun y => absurd y (by show ¬ (0 : Int) ≤ -5; decide))
          refine ⟨fun z => absurd z (by omega), fun _ => ⟨fun ne => o80 (fun q => ne q.1), fun eq => ⟨fun ne => o80 (fun q => ne q.2), fun eq2 => ?_⟩⟩⟩
          rw [if_pos ⟨c8, Classical.not_not.mp eq, Classical.not_not.mp eq2⟩] at hQ
          exact hQ A H h (fun _ => rfl)
      · rw [if_pos (show aFault A to 2 < 0 by omega)] at hQ
        exact hQ A H h (fun _ => rfl)
    · rw [if_pos (e1 _ _ u2)] at hQ
      exact hQ A H h (fun _ => rfl)
  · rw [if_pos (show aFault A x 2 < 0 by omega)] at hQ
    exact hQ A H h (fun _ => rfl)
theorem o_move (hL : L 28 = 64) (h : aGood (r * gGr d w * (w - 1)) A) (hx : 0 ≤ x ∧ x < 64) (hnm : 1 ≤ nm ∧ nm ≤ 65535) (ht : 0 ≤ to ∧ to < 64) (htn : 1 ≤ tn ∧ tn ≤ 65535) : oC (r * gGr d w * (w - 1)) t L H A 131 [(27, 27), (0, x), (0, nm), (0, to), (0, tn), (9, 0), (9, 0), (9, 0), (9, 0)] (aMov (r * gGr d w * (w - 1)) A x nm to tn) ∧ oM d w r t L G A 3 x nm to tn (aMov (r * gGr d w * (w - 1)) A x nm to tn) :=
  ⟨fun F _ hF hE Qr Qt hQ => t_moveEntry hL hF hE h hx hnm ht htn hQ, fun G' N _ hA Qr Qt hQ => v_248 ⟨fun z => absurd z (by decide), fun _ => ⟨fun z => absurd z (by decide), fun _ => ⟨fun z => absurd z (by decide), fun _ => ⟨fun _ => m_moves hA h hx hnm ht htn hQ, fun z => absurd rfl z⟩⟩⟩⟩⟩
end MOVE2
