/-! lose, off, feed, replace. -/
theorem vS.keep2 {d w r : Int} {C : Int → Int → Int} {H H' M M' : zHp} (h : vS d w r C H M) (e : ∀ q i, (q = 4 ∨ q = 5 ∨ q = 6 ∨ q = 7 ∨ q = 8 ∨ q = 9 ∨ q = 13) → H' q i = H q i) (e' : ∀ q i, (q = 37 ∨ q = 38 ∨ q = 39 ∨ q = 40 ∨ q = 41 ∨ (q = 35 ∧ (i = 12 ∨ i = 20))) → M' q i = M q i) (hR' : rL H' M') : vS d w r C H' M' := by
  obtain ⟨⟨hB, hL, hP⟩, hK, hR, ⟨on, nc⟩, pl⟩ := h
  refine ⟨⟨hB.of (fun q i hq => e q i (by omega)), hL.of (fun q i hq => e q i (by omega)), hP⟩, hK.of (fun q i hq => e q i (by omega)) (fun q i hq => e' q i (by omega)), hR', ⟨by rw [e' 35 12 (by omega)]; exact on, by rw [e' 35 20 (by omega)]; exact nc⟩, fun s s0 s1 => ?_⟩
  rw [e 13 _ (by omega), pl s s0 s1]
  exact (mPs_of on (by rw [e' 35 12 (by omega)]; exact on) (fun i => e' 41 i (by omega))).symm
/-- what is common stays, but for what is named -/
theorem rCm.keep2 {d w r : Int} {t t' : Nat} {L : Int → Int} {H H' M M' : zHp} (h : rCm d w r t L H M) (hg : gI d w r t' L H') (e : ∀ q i, (q = -8 ∨ (q = 0 ∧ i = 10) ∨ q = 33 ∨ (q = 16 ∧ (i = 4 ∨ i = 5)) ∨ (q = 18 ∧ i = 8) ∨ q = 23) → H' q i = H q i) (e' : ∀ q i, (q = 36 ∨ q = 42 ∨ (q = 35 ∧ (i = 1 ∨ i = 2 ∨ i = 3 ∨ i = 4 ∨ i = 6 ∨ i = 15 ∨ i = 17))) → M' q i = M q i) : rCm d w r t' L H' M' := by
  obtain ⟨⟨h1, h2, h3⟩, ⟨a1, a2, a3⟩, ⟨b1, b2, b3⟩, c1, c2⟩ := h
  refine ⟨⟨hg, h2.of (fun i hi => e' 35 i (by omega)) (fun i => e' 36 i (by omega)), h3.1, fun i i0 i1 => by rw [e (-8) i (by omega)]; exact h3.2 i i0 i1⟩, ?_, ?_, by rw [e 18 8 (by omega)]; exact c1, fun b b0 b1' => by rw [e 23 b (by omega)]; exact c2 b b0 b1'⟩
  · rw [e 0 10 (by omega), e' 35 17 (by omega)]
    exact ⟨a1, a2, fun k k0 k1 => by rw [e' 42 k (by omega), e 33 k (by omega)]; exact a3 k k0 k1⟩
  · rw [e 16 4 (by omega), e 16 5 (by omega), e' 35 15 (by omega)]
    exact ⟨b1, b2, b3⟩
section CALLS2
variable {d w r : Int} {t : Nat} {L : Int → Int} {H M X : zHp} {Qr Qt : Int → zS → Prop}
theorem rAll.lose {n : Int} (h : rAll d w r t L H M) (hn : 0 ≤ n ∧ n ≤ 2147483647) : rAll d w r t L (zupd H 3 11 n) (zupd M 35 13 (n - 1)) := by
  have hR : ∀ {H M : zHp}, rL H M → rL (zupd H 3 11 n) (zupd M 35 13 (n - 1)) := fun {H M} u => by
    unfold rL
    rw [zupd_at, zupd_at, zupd_no (by decide), zupd_no (by decide)]
    exact ⟨by omega, hn, u.2.2⟩
  obtain ⟨h1, h2⟩ := h
  have g := h1.1.1
  refine ⟨h1.keep2 ⟨g.1.upd (by omega) (fun u => by omega), g.2.keep (fun i => zupd_ne (by decide))⟩ (fun q i hq => zupd_no (by omega)) (fun q i hq => zupd_no (by omega)), ?_⟩
  rcases h2 with ⟨C, a, b, c, e, f⟩ | ⟨C, O, h2⟩
  · refine Or.inl ⟨C, a.keep2 (fun q i hq => zupd_ne (by omega)) (fun q i hq => zupd_no (by omega)) (hR a.2.2.1), ?_, c.keep (fun q i hq => zupd_no (by omega)) (fun q i hq => zupd_no (by omega)), ?_, by rw [zupd_ne (by decide)]; exact f⟩
    · exact b
    · exact e
  · exact Or.inr ⟨C, O, h2.keep (fun q i hq => zupd_no (by omega)) (fun q i hq => zupd_no (by omega)) (hR h2.2.1)⟩
theorem q_lose (ht : 118 ≤ t) (hX : lR X H) (hz : zhR (t, L, H)) (h : rAll d w r t L H H) (n : Int) (hn : z32 n = n) : cOKv rP 275 155 [(20, 0), (0, n)] 198 [(29, 35), (0, n)] X t L H := by
  have nr : -2147483648 ≤ n ∧ n ≤ 2147483647 := by unfold z32 at hn; omega
  refine cOKv_rel (Q := fun M v H1 => 0 ≤ n ∧ H1 = zupd H 3 11 n) (TT := fun c => c = 1 ∧ ¬ 0 ≤ n) ht hX hz h (za_c (za_i hn za_0)) (za_m (za_i hn za_0)) (fun M hM => v_155 ⟨fun c => v_22 ⟨_, rfl, fC.rfl'.upd (by decide), c, rfl⟩, fun c => ⟨ht, by decide, rfl, rfl, c⟩⟩) (fun v H1 M hM q => ?_) (fun c q => ?_)
  · obtain ⟨c, e⟩ := q
    refine j_198 ⟨fun _ => j_198_10 (m_f0 ⟨fun _ => ?_, fun u => absurd rfl u⟩), fun z => absurd c z⟩
    rw [z32_id (x := n - 1) (by omega) (by omega), e]
    exact ⟨_, rfl, (fM.rfl'.upd (by decide)).upd (by decide), by rw [zupd_no (by decide)]; show zupd M 35 0 0 35 0 = 0; exact zupd_at, hM.up.lose ⟨c, nr.2⟩⟩
  · exact ⟨1, by rw [q.1]; rfl, by decide, fun t' ht' => j_198 ⟨fun z => absurd z q.2, fun _ => j_198_10 (m_f1 ⟨fun u => absurd u (by decide), fun _ => rfl⟩)⟩⟩
/-- off, with nothing cut -/
theorem rOn.off {C : Int → Int → Int} {H' M' : zHp} (hk : gOK d w r) (h : rOn d w r C H M) (f : vFd d w r H H') (e : H' 0 11 = 0 ∧ H' 3 11 = 0 ∧ H' 3 10 = H 3 10) (e' : ∀ q i, (q = 37 ∨ q = 38 ∨ q = 39 ∨ q = 40 ∨ q = 43 ∨ (q = 35 ∧ (i = 14 ∨ i = 20))) → M' q i = M q i) (eo : M' 35 12 = 0 ∧ M' 35 13 = -1) : rOff d w r C (fun _ => 0) H' M' := by
  obtain ⟨⟨⟨hB, hL, hP⟩, hK, hR, ⟨on, nc⟩, pl⟩, hv, ht, hj, -⟩ := h
  have f43 : M' 43 = M 43 := funext (fun i => e' 43 i (by omega))
  have nc' : M' 35 20 = 0 := by rw [e' 35 20 (by omega)]; exact nc
  refine ⟨(hB.w hk).off hk (hB.2.2.1.u hk) hL (hK.of (fun _ _ _ => rfl) (fun q i hq => e' q i (by omega))) f ⟨nc', hP⟩, ⟨by rw [e.2.1, eo.2]; rfl, by rw [e.2.1]; decide, by rw [e.2.2, e' 35 14 (by omega)]; exact hR.2.2⟩, ⟨eo.1, e.1⟩, by rw [f43]; exact hv, by rw [f43]; exact hj, fun u => by rw [nc'] at u; cases u⟩
theorem q_off (ht : 118 ≤ t) (hX : lR X H) (hz : zhR (t, L, H)) (h : rAll d w r t L H H) : cOKv rP 276 156 [(20, 0)] 199 [(29, 35)] X t L H := by
  have hk := h.1.1.1.1.1
  refine cOKv_rel (Q := fun M v H1 => H 0 11 = 1 ∧ rAll d w r t L H1 (mOff M)) (TT := fun c => c = 2 ∧ H 0 11 = 0) ht hX hz h (za_c za_0) (za_m za_0) (fun M hM => ?_) (fun v H1 M hM q => ?_) (fun c q => ?_)
  · rcases hM.on with ⟨a, b⟩ | ⟨a, b⟩
    · refine v_156 (k_on a (c_goOff hM.1.1.1.1 (fun H' g f e1 e2 e3 => ⟨H', rfl, fun q i hq => e3 q i (by omega) (by omega) (by omega), a, ?_⟩)))
      refine ⟨hM.1.keep2 g (fun q i hq => e3 q i (by omega) (by omega) (by omega)) (fun q i hq => mOff_no (by omega)), ?_⟩
      rcases hM.2 with ⟨C, h2⟩ | ⟨C, O, h2⟩
      · exact Or.inr ⟨C, _, h2.off hk f ⟨e1, e2, e3 3 10 (by decide) (by decide) (by decide)⟩ (fun q i hq => mOff_no (by omega)) ⟨mOff_12, mOff_13⟩⟩
      · have := h2.2.2.1.2
        omega
    · exact v_156 (v_172 ⟨fun u => absurd a u, fun _ => ⟨ht, by decide, rfl, rfl, a⟩⟩)
  · obtain ⟨c, q⟩ := q
    have on : M 35 12 = 1 := by rcases hM.on with u | u <;> omega
    refine j_199 ⟨fun _ => j_199_13 (m_f0 ⟨fun _ => ⟨Or.inl rfl, _, rfl, ((fM.rfl'.upd (by decide)).upd (by decide)).upd (by decide), ?_, ?_⟩, fun u => absurd rfl u⟩), fun z => absurd (by show M 35 12 ≠ 0; omega) z⟩
    · rw [zupd_no (by decide), zupd_no (by decide)]
      show zupd M 35 0 0 35 0 = 0
      exact zupd_at
    · refine q.keep (fun _ _ _ => rfl) (fun q' i a b c' => ?_)
      show mOff (zupd M 35 0 0) q' i = mOff M q' i
      by_cases z : q' = 35 ∧ (i = 12 ∨ i = 13)
      · obtain ⟨z1, z2 | z2⟩ := z
        · rw [z1, z2, mOff_12, mOff_12]
        · rw [z1, z2, mOff_13, mOff_13]
      · rw [mOff_no z, mOff_no z, zupd_no c']
  · obtain ⟨e, c⟩ := q
    have on : H 35 12 = 0 := by rcases h.on with u | u <;> omega
    exact ⟨1, by rw [e]; rfl, by decide, fun t' ht' => j_199 ⟨fun z => absurd on z, fun _ => j_199_13 (m_f1 ⟨fun u => absurd u (by decide), fun _ => rfl⟩)⟩⟩
-- feed
theorem q_feed (ht : 118 ≤ t) (hX : lR X H) (hz : zhR (t, L, H)) (h : rAll d w r t L H H) (n v : Int) (hn : z32 n = n) (hv : z64 v = v) : cOK rP 266 146 [(20, 0), (0, n), (1, v), (9, 0), (9, 0)] 195 [(29, 35), (0, n), (1, v), (9, 0), (9, 0)] X t L H := by
  have l33 : L 33 = 512 := h.1.1.1.1.2.1.2.2.2.2.2.2.2.2.2.2.2.2.2.1
  have tr := h.1.2.1
  have nr : -2147483648 ≤ n ∧ n ≤ 2147483647 := by unfold z32 at hn; omega
  refine cOK_rel (Q := fun M y H1 => (1 ≤ n ∧ n ≤ 8 ∧ H 0 10 + n ≤ 512) ∧ y = H 0 10 + n ∧ (∀ q i, q ≠ 33 → ¬ (q = 0 ∧ i = 10) → H1 q i = H q i) ∧ H1 0 10 = H 0 10 + n ∧ (∀ k, 0 ≤ k → k < H 0 10 → H1 33 k = H 33 k) ∧ (∀ k, 0 ≤ k → k < n → H1 33 (H 0 10 + k) % 256 = by8 v k) ∧ gI d w r t L H1) (TT := fun c => (c = 1 ∧ ¬ (1 ≤ n ∧ n ≤ 8)) ∨ (c = 2 ∧ (1 ≤ n ∧ n ≤ 8) ∧ ¬ H 0 10 + n ≤ 512)) ht hX hz h (za_c (za_i hn (za_l hv (za_9 (za_9 za_0))))) (za_m (za_i hn (za_l hv (za_9 (za_9 za_0))))) rfl (fun M hM => ?_) (fun y H1 M hM q => ?_) (fun c q => ?_)
  · have e10 : ∀ (G : zHp), G 0 10 = H 0 10 → ∀ k, 0 ≤ k → k ≤ 8 → z32 (G 0 10 + k) = H 0 10 + k := fun G g k k0 k1 => by rw [g]; exact z32_id (by omega) (by omega)
    by_cases c1 : 1 ≤ n ∧ n ≤ 8
    · have eN := e10 H rfl n (by omega) (by omega)
      by_cases c2 : H 0 10 + n ≤ 512
      · have key : ∀ (m : Nat) (k : Int) (G : zHp), 0 ≤ k → k + m = n → (∀ q i, q ≠ 33 → G q i = H q i) → (∀ j, 0 ≤ j → j < H 0 10 → G 33 j = H 33 j) → (∀ j, 0 ≤ j → j < k → G 33 (H 0 10 + j) % 256 = by8 v j) → zEnds 80 146 46 [(20, 0), (0, n), (1, v), (9, 0), (0, k)] [] (t, L, G) (fun y S1 => ∃ H1, S1 = (t, L, H1) ∧ fC H H1 ∧ ((1 ≤ n ∧ n ≤ 8 ∧ H 0 10 + n ≤ 512) ∧ y = H 0 10 + n ∧ (∀ q i, q ≠ 33 → ¬ (q = 0 ∧ i = 10) → H1 q i = H q i) ∧ H1 0 10 = H 0 10 + n ∧ (∀ k, 0 ≤ k → k < H 0 10 → H1 33 k = H 33 k) ∧ (∀ k, 0 ≤ k → k < n → H1 33 (H 0 10 + k) % 256 = by8 v k) ∧ gI d w r t L H1)) (fun c S1 => S1 = (t, L, H) ∧ ((c = 1 ∧ ¬ (1 ≤ n ∧ n ≤ 8)) ∨ (c = 2 ∧ (1 ≤ n ∧ n ≤ 8) ∧ ¬ H 0 10 + n ≤ 512))) := by
          intro m
          induction m with
          | zero =>
            intro k G k0 k1 g1 g2 g3
            refine v_146_46 ⟨fun _ => ?_, fun z => absurd (by omega) z⟩
            dsimp only
            rw [zupd_at, e10 G (g1 0 10 (by decide)) n (by omega) (by omega)]
            refine ⟨_, rfl, fun q i hq => ?_, ⟨c1.1, c1.2, c2⟩, rfl, fun q i a b => ?_, zupd_at, fun j j0 j1 => by rw [zupd_ne (by decide)]; exact g2 j j0 j1, fun j j0 j1 => by rw [zupd_ne (by decide)]; exact g3 j j0 (by omega), ?_⟩
            · rw [zupd_ne (by omega), g1 q i (by omega)]
            · rw [zupd_no b, g1 q i a]
            · have g := hM.1.1.1
              exact g.keep (fun q i hq => by rw [zupd_no (by omega), g1 q i (by omega)]) (fun q i hq => by
                rw [zupd_no (by omega), g1 q i (by omega)]
                exact g.1.2.2.2 q i (by omega))
          | succ m ih =>
            intro k G k0 k1 g1 g2 g3
            refine v_146_46 ⟨fun z => by omega, fun _ => ?_⟩
            dsimp only
            rw [e10 G (g1 0 10 (by decide)) k (by omega) (by omega), z32_id (x := k + 1) (by omega) (by omega)]
            refine ⟨by omega, ih (k + 1) _ (by omega) (by omega) (fun q i hq => by rw [zupd_ne hq]; exact g1 q i hq) (fun j j0 j1 => by rw [zupd_no (by omega)]; exact g2 j j0 j1) (fun j j0 j1 => ?_)⟩
            by_cases c : j = k
            · rw [c, zupd_at, zi2b_mod, zi2b_mod]
              exact by8_u (by omega)
            · rw [zupd_no (by omega)]
              exact g3 j j0 (by omega)
        refine v_146 ⟨fun z => by omega, fun _ => ⟨fun _ => ⟨fun _ => key n.toNat 0 H (by omega) (by omega) (fun _ _ _ => rfl) (fun _ _ _ => rfl) (fun j j0 j1 => by omega), fun z => absurd (by show z32 (H 0 10 + n) ≤ 512; omega) z⟩, fun z => by omega⟩⟩
      · exact v_146 ⟨fun z => by omega, fun _ => ⟨fun _ => ⟨fun z => absurd z (by show ¬ z32 (H 0 10 + n) ≤ 512; omega), fun _ => ⟨ht, by decide, rfl, Or.inr ⟨rfl, c1, c2⟩⟩⟩, fun z => by omega⟩⟩
    · exact v_146 ⟨fun _ => ⟨ht, by decide, rfl, Or.inl ⟨rfl, c1⟩⟩, fun _ => ⟨fun _ => by omega, fun _ => ⟨ht, by decide, rfl, Or.inl ⟨rfl, c1⟩⟩⟩⟩
  · obtain ⟨c, ey, a1, a2, a3, a4, a5⟩ := q
    have l42 : L 42 = 512 := hM.1.1.2.1.2.1.2.2.2.2.2.2.1
    have tM := hM.1.2.1
    have e17 : M 35 17 = H 0 10 := tM.1.symm
    have key : ∀ (m : Nat) (k : Int) (G : zHp), 0 ≤ k → k + m = n → (∀ q i, q ≠ 42 → ¬ (q = 35 ∧ i = 0) → G q i = M q i) → G 35 0 = 0 → (∀ j, 0 ≤ j → j < H 0 10 → G 42 j = M 42 j) → (∀ j, 0 ≤ j → j < k → G 42 (H 0 10 + j) = by8 v j) → zEnds 118 195 54 [(29, 35), (0, n), (1, v), (9, 0), (0, k)] [] (t, L, G) (fun b S2 => b = y ∧ ∃ H2, S2 = (t, L, H2) ∧ fM M H2 ∧ H2 35 0 = 0 ∧ rAll d w r t L H1 H2) (fun _ _ => False) := by
      intro m
      induction m with
      | zero =>
        intro k G k0 k1 g1 g0 g2 g3
        have g17 : G 35 17 = H 0 10 := by rw [g1 35 17 (by decide) (by decide)]; exact e17
        have eN : z32 (G 35 17 + n) = H 0 10 + n := by rw [g17]; exact z32_id (by omega) (by omega)
        refine v_195_54 ⟨fun _ => ?_, fun z => absurd (by omega) z⟩
        dsimp only
        rw [zupd_at, eN]
        refine ⟨ey.symm, _, rfl, fun q i hq => by rw [zupd_ne (by omega), g1 q i (by omega) (by omega)], by rw [zupd_no (by decide)]; exact g0, ?_⟩
        have e' : ∀ q i, q ≠ 42 → ¬ (q = 35 ∧ (i = 0 ∨ i = 17)) → zupd G 35 17 (H 0 10 + n) q i = M q i := fun q i a b => by rw [zupd_no (by omega), g1 q i a (by omega)]
        obtain ⟨⟨⟨h1, h2, h3⟩, -, ⟨b1, b2, b3⟩, c1, c2⟩, hr⟩ := hM
        refine ⟨⟨⟨a5, h2.of (fun i hi => e' 35 i (by decide) (by omega)) (fun i => e' 36 i (by decide) (by omega)), h3.1, fun i i0 i1 => by rw [a1 (-8) i (by decide) (by omega)]; exact h3.2 i i0 i1⟩, ⟨by rw [a2, zupd_at], by rw [a2]; omega, fun j j0 j1 => ?_⟩, ?_, by rw [a1 18 8 (by decide) (by decide)]; exact c1, fun b b0 b1' => by rw [a1 23 b (by decide) (by omega)]; exact c2 b b0 b1'⟩, ?_⟩
        · rw [a2] at j1
          rw [zupd_ne (by decide)]
          by_cases c' : j < H 0 10
          · rw [g2 j j0 c', a3 j j0 c']
            exact tM.2.2 j j0 c'
          · have q1 := g3 (j - H 0 10) (by omega) (by omega)
            have q2 := a4 (j - H 0 10) (by omega) (by omega)
            rw [show H 0 10 + (j - H 0 10) = j by omega] at q1 q2
            rw [q1, q2]
        · rw [a1 16 4 (by decide) (by decide), a1 16 5 (by decide) (by decide), e' 35 15 (by decide) (by decide)]
          exact ⟨b1, b2, b3⟩
        · rcases hr with ⟨C, hr⟩ | ⟨C, O, hr⟩
          · exact Or.inl ⟨C, hr.keep (fun q i hq => a1 q i (by omega) (by omega)) (fun q i hq => e' q i (by omega) (by omega)) (fun q i hq => a1 q i (by omega) (by omega)) (fun q i hq => e' q i (by omega) (by omega)) (a1 0 11 (by decide) (by decide))⟩
          · exact Or.inr ⟨C, O, hr.keep (fun q i hq => a1 q i (by omega) (by omega)) (fun q i hq => e' q i (by omega) (by omega)) (hr.2.1.of (fun i hi => a1 3 i (by decide) (by omega)) (fun i hi => e' 35 i (by decide) (by omega)))⟩
      | succ m ih =>
        intro k G k0 k1 g1 g0 g2 g3
        have g17 : G 35 17 = H 0 10 := by rw [g1 35 17 (by decide) (by decide)]; exact e17
        refine v_195_54 ⟨fun z => by omega, fun _ => ?_⟩
        dsimp only
        rw [g17, z32_id (x := H 0 10 + k) (by omega) (by omega), z32_id (x := k + 1) (by omega) (by omega)]
        refine ⟨by omega, ih (k + 1) _ (by omega) (by omega) (fun q i a b => by rw [zupd_ne a]; exact g1 q i a b) (by rw [zupd_ne (by decide)]; exact g0) (fun j j0 j1 => by rw [zupd_no (by omega)]; exact g2 j j0 j1) (fun j j0 j1 => ?_)⟩
        by_cases c' : j = k
        · rw [c', zupd_at]
          exact by8_s (by omega)
        · rw [zupd_no (by omega)]
          exact g3 j j0 (by omega)
    refine j_195 ⟨fun z => by omega, fun _ => ⟨fun _ => j_195_17 (m_f0 ⟨fun u => absurd rfl u, fun _ => ⟨fun _ => j_195_42 (m_f0 ⟨fun _ => key n.toNat 0 _ (by omega) (by omega) (fun q i a b => by rw [zupd_no b, zupd_no b]) zupd_at (fun j j0 j1 => by rw [zupd_ne (by decide), zupd_ne (by decide)]) (fun j j0 j1 => by omega), fun u => absurd rfl u⟩), fun z => absurd ?_ z⟩⟩), fun z => by omega⟩⟩
    dsimp only
    rw [zupd_no (by decide), e17, z32_id (x := H 0 10 + n) (by omega) (by omega)]
    omega
  · have e17 : H 35 17 = H 0 10 := tr.1.symm
    rcases q with ⟨e, c⟩ | ⟨e, c1, c2⟩
    · refine ⟨1, by rw [e]; rfl, by decide, fun t' ht' => ?_⟩
      have q : zEnds 118 195 17 [(29, 35), (0, n), (1, v), (9, 0), (9, 0)] [(0, 1), (29, 35)] (t', L, H) (fun _ S2 => S2 = (t', L, zupd H 35 0 1)) (fun _ _ => False) := j_195_17 (m_f1 ⟨fun _ => j_195_49 rfl, fun u => absurd (by decide) u⟩)
      exact j_195 ⟨fun _ => j_195_12 q, fun _ => ⟨fun _ => by omega, fun _ => j_195_12 q⟩⟩
    · refine ⟨2, by rw [e]; rfl, by decide, fun t' ht' => ?_⟩
      refine j_195 ⟨fun z => by omega, fun _ => ⟨fun _ => j_195_17 (m_f0 ⟨fun u => absurd rfl u, fun _ => ⟨fun z => absurd z ?_, fun _ => j_195_42 (m_f1 ⟨fun u => absurd u (by decide), fun _ => j_195_49 (by rw [zupd_zupd])⟩)⟩⟩), fun z => by omega⟩⟩
      dsimp only
      rw [zupd_no (by decide), e17, z32_id (x := H 0 10 + n) (by omega) (by omega)]
      omega
end CALLS2
