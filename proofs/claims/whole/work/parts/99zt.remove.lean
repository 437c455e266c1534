/-! remove. -/
section REMOVE
variable {d w r : Int} {t : Nat} {L : Int → Int} {H G F M X : zHp} {Qr Qt : Int → zS → Prop} {A : aSt} {x nm B : Int} {β : Int → Int}
noncomputable def aRem (A : aSt) (x nm : Int) : Int × aSt := if aFault A x 2 < 0 then (aFault A x 2, A) else if aEnt A x nm = -1 then (-1, A) else @ite _ (∃ e, aNd A (aNo A x (aEnt A x nm)) e) (Classical.propDecidable _) (-6, A) (0, aEnter (aFree A (aNo A x (aEnt A x nm))) x (aEnt A x nm) 0 0)
theorem aFree_nz {i j : Int} (hj : ¬ (20 * i ≤ j ∧ j < 20 * i + 20)) : (aFree A i).1 j = A.1 j := by
  show bR A.1 (20 * i) (20 * i + 20) j = A.1 j
  unfold bR
  rw [if_neg hj]
theorem aFree_z {i j : Int} (hj : 20 * i ≤ j ∧ j < 20 * i + 20) : (aFree A i).1 j = 0 := by
  show bR A.1 (20 * i) (20 * i + 20) j = 0
  unfold bR
  rw [if_pos hj]
theorem aRem_good (g : aGood B A) (hx : 0 ≤ x ∧ x < 64) (hnm : 1 ≤ nm ∧ nm ≤ 65535) : aGood B (aRem A x nm).2 := by
  unfold aRem
  by_cases c1 : aFault A x 2 < 0
  · rw [if_pos c1]; exact g
  · rw [if_neg c1]
    by_cases c2 : aEnt A x nm = -1
    · rw [if_pos c2]; exact g
    · rw [if_neg c2]
      by_cases c3 : ∃ e, aNd A (aNo A x (aEnt A x nm)) e
      · rw [if_pos c3]; exact g
      · rw [if_neg c3]
        have kd := (aFault_0 c1).1
        have lv := aEnt_live hx kd (by omega) c2
        have tr := g.2.2.2.2.2
        have i1 := (tr.1 _ _ lv).1
        have ne := tr.ne lv
        have he := (aEnt_rg c2).1
        generalize aEnt A x nm = e at lv i1 ne he c3
        obtain ⟨i, hi⟩ : ∃ i, aNo A x e = i := ⟨_, rfl⟩
        rw [hi] at i1 ne c3 ⊢
        obtain ⟨g1, s1⟩ := aFree_go g.go i1
        have kd' : (aFree A i).1 (20 * x) = 2 := by rw [aFree_nz (by omega)]; exact kd
        have he' : 0 ≤ e ∧ e < (aFree A i).1 (20 * x + 1) / 4 := by rw [aFree_nz (by omega)]; exact he
        obtain ⟨g2, s2⟩ := aEnter_go (nm := 0) (ino := 0) g1 hx kd' he'
        have nd : ∀ d' e', aNd (aEnter (aFree A i) x e 0 0) d' e' → ¬ (d' = x ∧ e' = e) ∧ aNd A d' e' ∧ aNo (aEnter (aFree A i) x e 0 0) d' e' = aNo A d' e' := fun d' e' u => by
          have c : ¬ (d' = x ∧ e' = e) := fun c => by
            rw [c.1, c.2] at u
            exact u.2.2.2 (aEnter_self (nm := 0) (ino := 0) g1.1.1 hx ⟨he'.1, g1.1.room hx he'⟩ (by decide) (by decide)).1
          have q := aEnter_nd (nm := 0) (ino := 0) g1.1 hx he' c
          have u' := q.1.mp u
          have cd : d' ≠ i := fun z => by
            have k := u'.2.1
            rw [z, aFree_z (by omega)] at k
            exact absurd k (by decide)
          have q2 := (s1 d' u.1.1 u.1.2 cd).nd (e := e') g.1
          have u2 := q2.1.mp u'
          exact ⟨c, u2, by rw [q.2 u', q2.2 u2]⟩
        refine g2.good (aTr_sub tr (fun d' e' u => (nd d' e' u).2) (fun d' e' u => ?_))
        obtain ⟨c, u1, -⟩ := nd d' e' u
        have v := (tr.1 d' e' u1)
        show (aFree A i).1 (20 * aNo A d' e') ≠ 0
        rw [aFree_nz (fun z => c (tr.2.1 d' e' x e u1 lv (by rw [hi]; omega)))]
        exact v.2
/-- Tree.removeEntry -/
theorem t_removeEntry (h : fS F B 0 [] β L H) (hE : aE B A β) (g : aGood B A) (hx : 0 ≤ x ∧ x < 64) (hnm : 1 ≤ nm ∧ nm ≤ 65535) (hQ : tPost F B t L (aRem A x nm) Qr) : zEnds 80 136 0 [(27, 27), (0, x), (0, nm), (9, 0)] [] (t, L, H) Qr Qt := by
  refine v_136 (t_inodeOf h hE g.1.s hx ?_)
  unfold aRem at hQ
  unfold aFind
  by_cases c1 : aFault A x 2 < 0
  · rw [if_pos c1] at hQ ⊢
    exact ⟨fun u => by omega, fun _ => hQ 0 [] β H h (fun _ => hE)⟩
  · rw [if_neg c1] at hQ ⊢
    by_cases c2 : aEnt A x nm = -1
    · rw [if_pos c2] at hQ ⊢
      exact ⟨fun u => absurd u (by decide), fun _ => hQ 0 [] β H h (fun _ => hE)⟩
    · rw [if_neg c2] at hQ ⊢
      have kd := (aFault_0 c1).1
      have lv := aEnt_live hx kd (by omega) c2
      have tr := g.2.2.2.2.2
      have i1 := (tr.1 _ _ lv).1
      have ne := tr.ne lv
      have he := (aEnt_rg c2).1
      rw [Int.emod_eq_of_lt (by omega) i1.2]
      refine ⟨fun _ => t_hasEntries h hE g.1.s (by omega) (fun c3 => ⟨fun z => absurd z (by decide), fun _ => ?_⟩) (fun c3 => ⟨fun _ => t_entryOf h hE g.1.s hx kd ?_, fun z => absurd rfl z⟩), fun u => absurd (by omega) u⟩
      · rw [if_pos c3] at hQ
        exact hQ 0 [] β H h (fun _ => hE)
      · rw [if_neg c3] at hQ
        have h3 := ((h.more (b := 58) (by decide)).more (b := 57) (by decide)).more (b := 25 + aNo A x (aEnt A x nm) / 2) (by decide)
        refine t_setEntry h3 hE g.1.s hx kd he (by decide) (by decide) (fun β' H' h' hE' => n_release h' hE' (aEnter_go g.go hx kd he).1.1 (by omega) ⟨List.mem_cons_of_mem _ List.mem_cons_self, List.mem_cons_of_mem _ (List.mem_cons_of_mem _ List.mem_cons_self), List.mem_cons_of_mem _ (List.mem_cons_of_mem _ (List.mem_cons_of_mem _ List.mem_cons_self))⟩ (fun β2 H2 h2 hE2 => hQ _ _ β2 H2 h2 (fun _ => ?_)))
        show aE B (aEnter (aFree A _) x _ 0 0) β2
        rw [aEnter_free g.1.1.1 hx (Ne.symm ne)]
        exact hE2
/-- DiskPoolModel.removes -/
theorem m_removes (h : mA d w r G A L H) (g : aGood (r * gGr d w * (w - 1)) A) (hx : 0 ≤ x ∧ x < 64) (hnm : 1 ≤ nm ∧ nm ≤ 65535) (hQ : mPost d w r G t L (aRem A x nm) Qr) : zEnds 118 247 0 [(29, 35), (0, x), (0, nm), (9, 0), (9, 0)] [] (t, L, H) Qr Qt := by
  have hB : 96 ≤ r * gGr d w * (w - 1) ∧ r * gGr d w * (w - 1) ≤ 768 := ⟨gBl_ge h.1.1, gBl_le h.1.1⟩
  have kx := (g.1.1.1 x hx.1 hx.2).1
  unfold aRem at hQ
  refine v_247 (m_badDirectory h hx kx ⟨fun u => ?_, fun u => m_badDirectory h hx kx ?_⟩)
  · have c1 : ¬ aFault A x 2 < 0 := by omega
    rw [if_neg c1] at hQ
    have kd := (aFault_0 c1).1
    refine m_entryOf h g.1.s g.2.1 hB.2 hx kd ⟨fun u2 => ?_, fun u2 => ?_⟩
    · have c2 : aEnt A x nm ≠ -1 := by omega
      rw [if_neg c2] at hQ
      have lv := aEnt_live hx kd (by omega) c2
      have tr := g.2.2.2.2.2
      have i1 := (tr.1 _ _ lv).1
      have ne := tr.ne lv
      have he := (aEnt_rg c2).1
      have hi : 0 ≤ aNo A x (aEnt A x nm) ∧ aNo A x (aEnt A x nm) < 64 := by omega
      have g1 := (aFree_go g.go i1).1
      have fin : ¬ (∃ e, aNd A (aNo A x (aEnt A x nm)) e) → zEnds 118 231 0 [(29, 35), (0, aNo A x (aEnt A x nm)), (9, 0)] [] (t, L, H) (fun v5 S5 => zEnds 118 237 0 [(29, 35), (0, x), (0, aEnt A x nm), (0, 0), (0, 0)] [] S5 (fun v6 S6 => Qr 0 S6) Qt) Qt := fun c3 => by
        rw [if_neg c3] at hQ
        exact m_frees h g.1 hB.2 hi (fun H' h' => m_enters h' g1.1.s hB.2 hx (by rw [aFree_nz (by omega)]; exact kd) (by rw [aFree_nz (by omega)]; exact he) (by decide) (by decide) (fun H2 h2 => hQ _ H2 h2 (fun _ => rfl)))
      refine m_inodeAt h g.1.s hB.2 hx kd he (m_kind h hi ⟨fun k2 => fin (fun ⟨e, u⟩ => k2 u.2.1), fun k2 => m_isEmpty h g.1.s g.2.1 hB.2 hi (by omega) (fun c3 => ⟨fun _ => fin c3, fun z => absurd (by decide) z⟩) (fun c3 => ⟨fun z => absurd rfl z, fun _ => ?_⟩)⟩)
      rw [if_pos c3] at hQ
      exact hQ A H h (fun _ => rfl)
    · have c2 : aEnt A x nm = -1 := by
        apply Classical.byContradiction
        intro z
        have := (aEnt_rg z).1
        omega
      rw [if_pos c2] at hQ
      exact hQ A H h (fun _ => rfl)
  · rw [if_pos (show aFault A x 2 < 0 by omega)] at hQ
    exact hQ A H h (fun _ => rfl)
theorem o_remove (h : aGood (r * gGr d w * (w - 1)) A) (hx : 0 ≤ x ∧ x < 64) (hnm : 1 ≤ nm ∧ nm ≤ 65535) : oC (r * gGr d w * (w - 1)) t L H A 136 [(27, 27), (0, x), (0, nm), (9, 0)] (aRem A x nm) ∧ oM d w r t L G A 4 x nm 0 0 (aRem A x nm) :=
  ⟨fun F _ hF hE Qr Qt hQ => t_removeEntry hF hE h hx hnm hQ, fun G' N _ hA Qr Qt hQ => v_248 ⟨fun z => absurd z (by decide), fun _ => ⟨fun z => absurd z (by decide), fun _ => ⟨fun z => absurd z (by decide), fun _ => ⟨fun z => absurd z (by decide), fun _ => m_removes hA h hx hnm hQ⟩⟩⟩⟩⟩
theorem q_remove {x y : Int} (ht : 118 ≤ t) (hX : lR X H) (hz : zhR (t, L, H)) (h : rAll d w r t L H H) (hx : z32 x = x) (hy : z32 y = y) : cOK rP 273 153 [(20, 0), (0, x), (0, y), (9, 0)] 258 [(29, 35), (0, x), (0, y)] X t L H := by
  refine cOK_rel (Q := fun M v H1 => ((0 ≤ x ∧ x ≤ 63) ∧ (1 ≤ y ∧ y ≤ 65535) ∧ H 0 11 = 1) ∧ oQ d w r t L 4 x y 0 0 M (zupd M 35 0 0) v H1) (TT := fun k => (k = 1 ∧ ¬ ((0 ≤ x ∧ x ≤ 63) ∧ (1 ≤ y ∧ y ≤ 65535))) ∨ (k = 2 ∧ ((0 ≤ x ∧ x ≤ 63) ∧ (1 ≤ y ∧ y ≤ 65535)) ∧ H 0 11 = 0)) ht hX hz h (za_c (za_i hx (za_i hy (za_9 za_0)))) (za_m (za_i hx (za_i hy za_0))) rfl (fun M hM => ?_) (fun v H1 M hM q => ?_) (fun k q => ?_)
  · refine v_153 (k_inode ht (fun cx => k_name ht (fun cy => k_on2 ht (fun u => ?_) (fun u => ⟨rfl, Or.inr ⟨rfl, ⟨cx, cy⟩, u⟩⟩)) (fun cy => ⟨rfl, Or.inl ⟨rfl, fun z => cy z.2⟩⟩)) (fun cx => ⟨rfl, Or.inl ⟨rfl, fun z => cx z.1⟩⟩))
    have on : H 0 11 = 1 := by rcases hM.on with z | z <;> omega
    have hM1 : rAll d w r t L H (zupd M 35 0 0) := hM.up
    obtain ⟨C, hn⟩ := hM1.ison on
    have op := o_remove (d := d) (w := w) (r := r) (t := t) (L := L) (H := H) (G := zupd M 35 0 0) hn.g (x := x) (nm := y) (by omega) cy
    exact o_does (za_o ⟨by decide, by decide⟩ (za_i hx (za_i hy (za_9 za_0)))) hz hM1.1 hn op.1 op.2 (fun _ => aRem_good hn.g (by omega) cy) (fun v H1 fc q => ⟨H1, rfl, fc, ⟨cx, cy, on⟩, oQ.of (fM.rfl'.upd (by decide)) zupd_at q⟩)
  · obtain ⟨⟨cx, cy, on⟩, q⟩ := q
    have onM : zupd M 35 0 0 35 12 = 1 := by rcases (hM.up (k := 0)).on with z | z <;> omega
    refine j_258 (m_isBad (fun _ => ⟨fun u => absurd rfl u, fun _ => m_isBadName (fun _ => ⟨fun _ => j_258_20 (m_f0 ⟨fun u => absurd rfl u, fun _ => ⟨fun _ => j_258_40 (m_f0 ⟨fun _ => ?_, fun u => absurd rfl u⟩), fun u => absurd (by show zupd M 35 0 0 35 12 ≠ 0; omega) u⟩⟩), fun u => absurd rfl u⟩) (fun u => absurd cy u)⟩) (fun u => absurd cx u))
    rw [zupd_zupd]
    exact q
  · have bad : ∀ t' : Nat, zEnds 118 258 20 [(29, 35), (0, x), (0, y)] [(0, 1), (29, 35)] (t', L, H) (fun _ S2 => S2 = (t', L, zupd H 35 0 1)) (fun _ _ => False) := fun t' => j_258_20 (m_f1 ⟨fun _ => j_258_47 rfl, fun u => absurd (by decide) u⟩)
    rcases q with ⟨e, c⟩ | ⟨e, c, off⟩
    · refine ⟨1, by rw [e]; rfl, by decide, fun t' ht' => j_258 (m_isBad (fun cx => ⟨fun u => absurd rfl u, fun _ => m_isBadName (fun cy => absurd ⟨cx, cy⟩ c) (fun _ => ⟨fun u => absurd u (by decide), fun _ => j_258_15 (bad t')⟩)⟩) (fun cx => ⟨fun _ => j_258_15 (bad t'), fun u => absurd (by decide) u⟩))⟩
    · have offM : H 35 12 = 0 := by rcases h.on with z | z <;> omega
      exact ⟨2, by rw [e]; rfl, by decide, fun t' ht' => j_258 (m_isBad (fun cx => ⟨fun u => absurd rfl u, fun _ => m_isBadName (fun cy => ⟨fun _ => j_258_20 (m_f0 ⟨fun u => absurd rfl u, fun _ => ⟨fun u => absurd (by show zupd H 35 0 0 35 12 = 0; rw [zupd_no (by decide)]; exact offM) u, fun _ => j_258_40 (m_f1 ⟨fun u => absurd u (by decide), fun _ => j_258_47 (by rw [zupd_zupd])⟩)⟩⟩), fun u => absurd rfl u⟩) (fun u => absurd c.2 u)⟩) (fun u => absurd c.1 u))⟩
end REMOVE
