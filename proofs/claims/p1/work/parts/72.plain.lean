/-! One call on a new object: the plain calls. -/
theorem nN0_k {i : Int} (hi : 0 ≤ i) : nN0 (20 * i) = (if i = 0 then 2 else 0) ∧ ∀ x, 0 < x → nN0 (20 * i + x) = 0 := by
  refine ⟨?_, fun x hx => ?_⟩
  · rw [nN0_at]
    by_cases c : i = 0
    · rw [if_pos c, if_pos (by omega)]
    · rw [if_neg c, if_neg (by omega)]
  · rw [nN0_at, if_neg (by omega)]
theorem nA0_in {i b : Int} (hi : 0 ≤ i) : ¬ aIn nN0 i b := by
  intro h
  obtain ⟨e, e0, e1, -⟩ := h
  rw [(nN0_k hi).2 2 (by decide)] at e1
  omega
theorem nA0_G (B : Int) : aG B nA0 := by
  refine ⟨⟨nN0_N, fun i b i0 _ h => absurd h (nA0_in i0), fun i e e' b i0 _ e0 e1 => ?_⟩, fun i i0 _ => ⟨?_, fun _ => ?_⟩⟩
  · have e1 : e < nN0 (20 * i + 2) := e1
    rw [(nN0_k i0).2 2 (by decide)] at e1
    omega
  · show aTot nN0 i = (nN0 (20 * i + 1) + 63) / 64
    unfold aTot
    rw [(nN0_k i0).2 2 (by decide), (nN0_k i0).2 1 (by decide)]
    rfl
  · show nN0 (20 * i + 1) % 64 = 0
    rw [(nN0_k i0).2 1 (by decide)]
    rfl
theorem nA0_S (B : Int) : aS B nA0 := by
  obtain ⟨⟨a, b, -⟩, c⟩ := nA0_G B
  exact ⟨a, c, b⟩
theorem nO0_at {b : Int} : nO0 b = if 0 ≤ b ∧ b < 59 then 100 else 0 := rfl
theorem nA0_by (B : Int) : aBy B nA0 := fun b x b0 b1 b2 => by
  have b2 : 0 < nO0 b := b2
  rw [nO0_at, if_neg (by omega)] at b2
  omega
theorem nA0_P : aP nA0.2.1 := by
  refine ⟨fun b b0 b1 => ?_, fun b b0 b1 => ?_⟩
  · show 0 < nO0 b
    rw [nO0_at, if_pos ⟨b0, b1⟩]
    decide
  · show 0 ≤ nO0 b
    rw [nO0_at, if_neg (by omega)]
    decide
theorem mF.A {d w r : Int} {L : Int → Int} {H : zHp} (h : mF d w r L H) : mA d w r H nA0 L H := ⟨h.1, h.2.2.2.1.1, h.2.2.2.1.2.1, fun j _ _ => h.2.2.2.2 47 j (by omega), fun _ _ _ _ _ => rfl⟩
theorem mF.up {d w r k : Int} {L : Int → Int} {H : zHp} (h : mF d w r L H) : mF d w r L (zupd H 35 0 k) := h.of (fun q i _ _ n => zupd_no n)
theorem kF.S {d w r : Int} {t : Nat} {L : Int → Int} {H : zHp} (h : kF d w r t L H) : fS H (r * gGr d w * (w - 1)) 0 [] (zB8 H 19) L H := by
  obtain ⟨⟨g, -⟩, ⟨-, b2, b3, -⟩, -⟩ := h
  exact ⟨gLen.i g.1.1 g.1.2.1, iT.rest g.1.2.2.1.2.2.2.2 b2 b3 (fun b => ⟨g.1.2.2.2 22 b (by omega), g.1.2.2.2 23 b (by omega)⟩), fun _ _ => rfl⟩
section PLAIN
variable {d w r : Int} {t : Nat} {L : Int → Int} {H X : zHp} {Qr Qt : Int → zS → Prop}
-- feed
theorem p_feedC {n v : Int} (h : kF d w r t L H) (hn : 1 ≤ n ∧ n ≤ 8) : cR 146 [(20, 0), (0, n), (1, v), (9, 0), (9, 0)] t L H n := by
  have l33 : L 33 = 512 := h.1.1.1.2.1.2.2.2.2.2.2.2.2.2.2.2.2.2.1
  have e : H 0 10 = 0 := h.2.2.1
  have key : ∀ (m : Nat) (k : Int) (G : zHp), 0 ≤ k → k + m = n → fC H G → G 0 10 = 0 → zEnds 80 146 46 [(20, 0), (0, n), (1, v), (9, 0), (0, k)] [] (t, L, G) (fun v' S1 => v' = n ∧ ∃ H1, S1 = (t, L, H1) ∧ fC H H1) (fun _ _ => False) := by
    intro m
    induction m with
    | zero =>
      intro k G k0 k1 f g
      refine v_146_46 ⟨fun _ => ?_, fun z => absurd (by omega) z⟩
      dsimp only
      rw [zupd_at, g, z32_id (x := 0 + n) (by omega) (by omega)]
      exact ⟨by omega, _, rfl, f.upd (by decide)⟩
    | succ m ih =>
      intro k G k0 k1 f g
      refine v_146_46 ⟨fun z => by omega, fun _ => ?_⟩
      dsimp only
      rw [g, z32_id (x := 0 + k) (by omega) (by omega), z32_id (x := k + 1) (by omega) (by omega)]
      exact ⟨by omega, ih (k + 1) _ (by omega) (by omega) (f.upd (by decide)) (by rw [zupd_ne (by decide)]; exact g)⟩
  refine v_146 ⟨fun z => by omega, fun _ => ⟨fun _ => ⟨fun _ => key n.toNat 0 H (by omega) (by omega) fC.rfl' e, fun z => absurd ?_ z⟩, fun z => by omega⟩⟩
  dsimp only
  rw [e, z32_id (x := 0 + n) (by omega) (by omega)]
  omega
theorem p_feedM {n v : Int} (hn : 1 ≤ n ∧ n ≤ 8) : mR 195 [(29, 35), (0, n), (1, v), (9, 0), (9, 0)] L (mF d w r L) n := by
  intro t H ht h
  have l42 : L 42 = 512 := h.1.2.1.2.2.2.2.2.2.1
  have e : H 35 17 = 0 := h.2.1.2.2.2 17 (by decide) (by decide) (by decide) (by decide) (by decide) (by decide) (by decide) (by decide) (by decide)
  have key : ∀ (m : Nat) (k : Int) (G : zHp), 0 ≤ k → k + m = n → fM H G → G 35 17 = 0 → G 35 0 = 0 → zEnds 118 195 54 [(29, 35), (0, n), (1, v), (9, 0), (0, k)] [] (t, L, G) (fun v' S1 => v' = n ∧ ∃ H1, S1 = (t, L, H1) ∧ H1 35 0 = 0 ∧ fM H H1) (fun _ _ => False) := by
    intro m
    induction m with
    | zero =>
      intro k G k0 k1 f g g0
      refine v_195_54 ⟨fun _ => ?_, fun z => absurd (by omega) z⟩
      dsimp only
      rw [zupd_at, g, z32_id (x := 0 + n) (by omega) (by omega)]
      exact ⟨by omega, _, rfl, by rw [zupd_no (by decide)]; exact g0, f.upd (by decide)⟩
    | succ m ih =>
      intro k G k0 k1 f g g0
      refine v_195_54 ⟨fun z => by omega, fun _ => ?_⟩
      dsimp only
      rw [g, z32_id (x := 0 + k) (by omega) (by omega), z32_id (x := k + 1) (by omega) (by omega)]
      exact ⟨by omega, ih (k + 1) _ (by omega) (by omega) (f.upd (by decide)) (by rw [zupd_ne (by decide)]; exact g) (by rw [zupd_ne (by decide)]; exact g0)⟩
  refine j_195 ⟨fun z => by omega, fun _ => ⟨fun _ => j_195_17 (m_f0 ⟨fun u => absurd rfl u, fun _ => ⟨fun _ => j_195_42 (m_f0 ⟨fun _ => ?_, fun u => absurd rfl u⟩), fun z => absurd ?_ z⟩⟩), fun z => by omega⟩⟩
  · refine key n.toNat 0 _ (by omega) (by omega) ((fM.rfl'.upd (by decide)).upd (by decide)) ?_ ?_
    · rw [zupd_no (by decide), zupd_no (by decide)]; exact e
    · rw [zupd_at]
  · dsimp only
    rw [zupd_no (by decide), e, z32_id (x := 0 + n) (by omega) (by omega)]
    omega
theorem p_feed (ht : 118 ≤ t) (hX : lR X H) (h : kF d w r t L H) (hm : mF d w r L H) (n v : Int) : cOK pT 266 146 [(20, 0), (0, n), (1, v), (9, 0), (9, 0)] 195 [(29, 35), (0, n), (1, v), (9, 0), (9, 0)] X t L H := by
  by_cases c : 1 ≤ n ∧ n ≤ 8
  · exact cOK_ret ht hX hm (p_feedC h c) (p_feedM c)
  · refine cOK_thr (c := 1) (k := 1) ht hX hm (v_146 ⟨fun _ => ⟨ht, by decide, rfl, H, rfl, fC.rfl'⟩, fun _ => ⟨fun _ => by omega, fun _ => ⟨ht, by decide, rfl, H, rfl, fC.rfl'⟩⟩⟩) rfl (by decide) (fun t' H' ht' hm' => ?_)
    have q : zEnds 118 195 17 [(29, 35), (0, n), (1, v), (9, 0), (9, 0)] [(0, 1), (29, 35)] (t', L, H') (fun _ S2 => ∃ H2, S2 = (t', L, H2) ∧ H2 35 0 = 1 ∧ fM H' H2) (fun _ _ => False) := j_195_17 (m_f1 ⟨fun _ => j_195_49 ⟨_, rfl, zupd_at, fM.rfl'.upd (by decide)⟩, fun u => absurd (by decide) u⟩)
    exact j_195 ⟨fun _ => j_195_12 q, fun _ => ⟨fun _ => by omega, fun _ => j_195_12 q⟩⟩
-- lose
theorem p_lose (ht : 118 ≤ t) (hX : lR X H) (hm : mF d w r L H) (n : Int) : cOKv pT 275 155 [(20, 0), (0, n)] 198 [(29, 35), (0, n)] X t L H := by
  by_cases c : 0 ≤ n
  · refine cOKv_ret (v := 0) ht hX hm (v_155 ⟨fun _ => v_22 ⟨rfl, _, rfl, fC.rfl'.upd (by decide)⟩, fun z => absurd c z⟩) (fun t' H' ht' hm' => ?_)
    exact j_198 ⟨fun _ => j_198_10 (m_f0 ⟨fun _ => ⟨_, rfl, by rw [zupd_no (by decide)]; show zupd H' 35 0 0 35 0 = 0; exact zupd_at, (fM.rfl'.upd (by decide)).upd (by decide)⟩, fun u => absurd rfl u⟩), fun z => absurd c z⟩
  · refine cOKv_thr (c := 1) (k := 1) ht hX hm (v_155 ⟨fun z => absurd z c, fun z => ⟨ht, by decide, rfl, H, rfl, fC.rfl'⟩⟩) rfl (by decide) (fun t' H' ht' hm' => ?_)
    exact j_198 ⟨fun z => absurd z c, fun _ => j_198_10 (m_f1 ⟨fun u => absurd u (by decide), fun _ => ⟨_, rfl, zupd_at, fM.rfl'.upd (by decide)⟩⟩)⟩
-- off
theorem p_off (ht : 118 ≤ t) (hX : lR X H) (h : kF d w r t L H) (hm : mF d w r L H) : cOKv pT 276 156 [(20, 0)] 199 [(29, 35)] X t L H := by
  have e : H 0 11 = 1 := h.2.2.2.1
  refine cOKv_ret (v := 0) ht hX hm (v_156 (k_on e (v_173 ⟨Or.inl rfl, v_22 (g_findPlaces (d := d) (w := w) (r := r) ((h.1.1.1.upd (by omega) (fun _ => Or.inl rfl)).upd (by omega) (by omega)) ⟨rfl, _, rfl, fun q i hq => ?_⟩)⟩))) (fun t' H' ht' hm' => ?_)
  · unfold gFP
    rw [if_neg (by omega), zupd_ne (by omega)]
    exact zupd_ne (by omega)
  · have e2 : H' 35 12 = 1 := hm'.2.1.1
    exact j_199 ⟨fun _ => j_199_13 (m_f0 ⟨fun _ => ⟨Or.inl rfl, _, rfl, by rw [zupd_no (by decide), zupd_no (by decide)]; show zupd H' 35 0 0 35 0 = 0; exact zupd_at, ((fM.rfl'.upd (by decide)).upd (by decide)).upd (by decide)⟩, fun u => absurd rfl u⟩), fun z => absurd (by show H' 35 12 ≠ 0; omega) z⟩
-- open
theorem p_open (ht : 118 ≤ t) (hX : lR X H) (h : kF d w r t L H) (hm : mF d w r L H) : cOKb pT 277 157 [(20, 0), (9, 0)] 207 [(29, 35), (9, 0), (9, 0)] X t L H := by
  have e : H 0 11 = 1 := h.2.2.2.1
  refine cOKb_thr (c := 2) (k := 1) ht hX hm (v_157 ⟨fun z => absurd z (by show ¬ H 0 11 = 0; omega), fun _ => ⟨ht, by decide, rfl, H, rfl, fC.rfl'⟩⟩) rfl (by decide) (fun t' H' ht' hm' => ?_)
  have e2 : H' 35 12 = 1 := hm'.2.1.1
  refine j_207 ?_
  show zEnds 118 181 0 [(29, 35), (0, H' 35 12), (0, 1)] [] (t', L, H') _ _
  rw [e2]
  exact m_f1 ⟨fun u => absurd u (by decide), fun _ => ⟨Or.inl rfl, _, rfl, zupd_at, fM.rfl'.upd (by decide)⟩⟩
-- replace
theorem p_replace (ht : 118 ≤ t) (hX : lR X H) (h : kF d w r t L H) (hm : mF d w r L H) (x : Int) : cOKb pT 279 159 [(20, 0), (0, x)] 209 [(29, 35), (0, x), (9, 0), (9, 0)] X t L H := by
  have hd1 := h.1.1.1.1.1
  have hd2 := h.1.1.1.1.2.1
  by_cases c : 0 ≤ x ∧ x < d
  · have e4 : H 4 x = 1 := h.1.2.1.1.2.2.2.2 x c.1 c.2
    refine cOKb_ret (v := 0) ht hX hm (Or.inl rfl) (v_159 (k_disk h.1.1.1 ht (fun _ => g_isLive h.1.1.1 c ⟨fun u => absurd u (by show ¬ H 4 x = 0; omega), fun _ => ⟨Or.inl rfl, rfl, H, rfl, fC.rfl'⟩⟩) (fun u => absurd c u))) (fun t' H' ht' hm' => ?_)
    have e1 : H' 35 1 = d := hm'.1.2.2.2.1.1
    have l37 : L 37 = 16 := hm'.1.2.1.2.1
    have e37 : H' 37 x = 1 := by rw [hm'.2.2.1.1 x, if_pos c]
    refine j_209 ⟨fun z => by omega, fun _ => ⟨fun _ => j_209_18 (m_f0 ⟨fun u => absurd rfl u, fun _ => ⟨by show 0 ≤ x ∧ x < L 37; omega, fun u => absurd u ?_, fun _ => j_209_34 ⟨Or.inl rfl, rfl, _, rfl, zupd_at, fM.rfl'.upd (by decide)⟩⟩⟩), fun z => absurd (by show x < H' 35 1; omega) z⟩⟩
    show ¬ zupd H' 35 0 0 37 x = 0
    rw [zupd_ne (by decide)]
    omega
  · refine cOKb_thr (c := 1) (k := 1) ht hX hm (v_159 (k_disk h.1.1.1 ht (fun u => absurd u c) (fun _ => ⟨rfl, H, rfl, fC.rfl'⟩))) rfl (by decide) (fun t' H' ht' hm' => ?_)
    have e1 : H' 35 1 = d := hm'.1.2.2.2.1.1
    have q : zEnds 118 209 18 [(29, 35), (0, x), (9, 0), (9, 0)] [(0, 1), (29, 35)] (t', L, H') (fun _ S2 => ∃ H2, S2 = (t', L, H2) ∧ H2 35 0 = 1 ∧ fM H' H2) (fun _ _ => False) := j_209_18 (m_f1 ⟨fun _ => j_209_34 ⟨Or.inl rfl, _, rfl, zupd_at, fM.rfl'.upd (by decide)⟩, fun u => absurd (by decide) u⟩)
    exact j_209 ⟨fun _ => j_209_13 q, fun _ => ⟨fun z => absurd z (by show ¬ x < H' 35 1; omega), fun _ => j_209_13 q⟩⟩
-- place
theorem p_place (ht : 118 ≤ t) (hX : lR X H) (h : kF d w r t L H) (hm : mF d w r L H) (x y : Int) : cOK pT 285 165 [(20, 0), (0, x), (0, y)] 264 [(29, 35), (0, x), (0, y)] X t L H := by
  have hk := h.1.1.1.1
  obtain ⟨p1, p2, p3, p4⟩ := gPo_rg hk
  have hsp := gSpots hk
  have hd2 := hk.2.1
  have hw3 := hk.2.2.1
  have hr2 := hk.2.2.2.2.2.2
  have n1 : H 1 2 = r := h.1.1.1.2.2.1.1.2.2.1
  have n2 : H 1 4 = gPo d w := h.1.1.1.2.2.1.1.2.2.2.2.1
  have l13 : L 13 = r * gPo d w := h.1.1.1.2.1.2.1.1
  have emp : ∀ H', mF d w r L H' → z32 (H' 35 2 * H' 35 4) = gPo d w := fun H' hm' => by
    rw [hm'.1.2.2.2.1.2.1, hm'.1.2.2.2.1.2.2.2.1]
    show z32 (gPo d w) = gPo d w
    exact z32_id (by omega) (by omega)
  by_cases c : (0 ≤ x ∧ x < r) ∧ (0 ≤ y ∧ y < gPo d w)
  · have m1 : (x + 1) * gPo d w ≤ r * gPo d w := Int.mul_le_mul_of_nonneg_right (by omega) (by omega)
    have m2 : 0 ≤ x * gPo d w := Int.mul_nonneg c.1.1 (by omega)
    rw [Int.add_mul, Int.one_mul] at m1
    have e13 : H 13 (x * gPo d w + y) = gDk d x y := by
      rw [h.1.2.1.2.1 _ (by omega) (by omega)]
      unfold gHome
      rw [show x * gPo d w + y = y + gPo d w * x by rw [Int.mul_comm]; omega, Int.add_mul_ediv_left _ _ (by omega), Int.ediv_eq_zero_of_lt c.2.1 c.2.2, Int.zero_add, Int.add_mul_emod_self_left, Int.emod_eq_of_lt c.2.1 c.2.2]
    refine cOK_ret (v := gDk d x y) ht hX hm (v_165 ⟨fun z => by omega, fun _ => ⟨fun z => absurd z (by show ¬ H 1 2 ≤ x; omega), fun _ => ⟨fun z => by omega, fun _ => ⟨fun _ => ?_, fun z => absurd (by show y < H 1 4; omega) z⟩⟩⟩⟩) (fun t' H' ht' hm' => ?_)
    · dsimp only
      rw [n2, z32_id (x := x * gPo d w) (by omega) (by omega), z32_id (x := x * gPo d w + y) (by omega) (by omega)]
      exact v_39 ⟨by show 0 ≤ x * gPo d w + y ∧ x * gPo d w + y < L 13; omega, e13, H, rfl, fC.rfl'⟩
    · have e3 : H' 35 3 = r := hm'.1.2.2.2.1.2.2.1
      refine j_264 ⟨fun z => by omega, fun _ => ⟨fun z => absurd z (by show ¬ H' 35 3 ≤ x; omega), fun _ => ⟨fun z => by omega, fun _ => ⟨fun _ => j_264_35 (m_f0 ⟨fun _ => m_placeOf hm'.up.1 c.1 c.2 ⟨?_, _, rfl, zupd_at, fM.rfl'.upd (by decide)⟩, fun u => absurd rfl u⟩), fun z => absurd (by show y < z32 (H' 35 2 * H' 35 4); rw [emp H' hm']; exact c.2.2) z⟩⟩⟩⟩
      unfold mPl
      rw [if_neg (by rw [hm'.up.2.1.1]; decide)]
      exact hm'.up.2.2.1.2.2.1 x y c.1.1 c.1.2 c.2.1 c.2.2
  · refine cOK_thr (c := 1) (k := 1) ht hX hm (v_165 ⟨fun _ => ⟨ht, by decide, rfl, H, rfl, fC.rfl'⟩, fun z1 => ⟨fun _ => ⟨ht, by decide, rfl, H, rfl, fC.rfl'⟩, fun z2 => ⟨fun _ => ⟨ht, by decide, rfl, H, rfl, fC.rfl'⟩, fun z3 => ⟨fun z4 => absurd ?_ c, fun _ => ⟨ht, by decide, rfl, H, rfl, fC.rfl'⟩⟩⟩⟩⟩) rfl (by decide) (fun t' H' ht' hm' => ?_)
    · have z2 : ¬ H 1 2 ≤ x := z2
      have z4 : y < H 1 4 := z4
      omega
    · have e3 : H' 35 3 = r := hm'.1.2.2.2.1.2.2.1
      have q : zEnds 118 264 35 [(29, 35), (0, x), (0, y)] [(0, 1), (29, 35)] (t', L, H') (fun _ S2 => ∃ H2, S2 = (t', L, H2) ∧ H2 35 0 = 1 ∧ fM H' H2) (fun _ _ => False) := j_264_35 (m_f1 ⟨fun u => absurd u (by decide), fun _ => ⟨_, rfl, zupd_at, fM.rfl'.upd (by decide)⟩⟩)
      refine j_264 ⟨fun _ => j_264_30 q, fun z1 => ⟨fun _ => j_264_30 q, fun z2 => ⟨fun _ => j_264_30 q, fun z3 => ⟨fun z4 => absurd ?_ c, fun _ => j_264_30 q⟩⟩⟩⟩
      have z2 : ¬ H' 35 3 ≤ x := z2
      have z4 : y < z32 (H' 35 2 * H' 35 4) := z4
      rw [emp H' hm'] at z4
      omega
end PLAIN
