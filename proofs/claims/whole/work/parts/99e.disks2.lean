/-! replace, fail. -/
section DISKS2
variable {d w r : Int} {t : Nat} {L : Int → Int} {H M X : zHp} {Qr Qt : Int → zS → Prop} {C : Int → Int → Int}
/-- what replacing leaves of the reference's cells -/
def mBl (d r : Int) (M N : zHp) (x : Int) : Prop := (∀ q i, q ≠ 37 → q ≠ 38 → q ≠ 39 → q ≠ 40 → N q i = M q i) ∧ (∀ y, N 37 y = if y = x then 1 else M 37 y) ∧ (∀ y o, 0 ≤ y → y < d → 0 ≤ o → o ≤ r → (y = x → N 38 (65 * y + o) = 0 ∧ ∀ k, 0 ≤ k → k < 70 → N 40 (70 * (65 * y + o) + k) = 0) ∧ (y ≠ x → N 38 (65 * y + o) = M 38 (65 * y + o) ∧ N 39 (65 * y + o) = M 39 (65 * y + o) ∧ ∀ k, 0 ≤ k → k < 70 → N 40 (70 * (65 * y + o) + k) = M 40 (70 * (65 * y + o) + k))) ∧ ∀ j, N 40 j = 0 ∨ N 40 j = M 40 j
theorem m_replace {x : Int} (h : mS d w r L M) (hx : 0 ≤ x ∧ x < d) (hQ : ∀ N, mBl d r M N x → Qr 1 (t, L, N)) : zEnds 118 209 45 [(29, 35), (0, x), (0, 0), (9, 0)] [] (t, L, zupd M 37 x 1) Qr Qt := by
  have hk := h.1
  have d16 := hk.2.1
  have r64 := hk.2.2.2.2.2.2
  have r48 := hk.2.2.2.2.2.1
  have l38 : L 38 = 1040 := h.2.1.2.2.1
  have l39 : L 39 = 1040 := h.2.1.2.2.2.1
  have l40 : L 40 = 72800 := h.2.1.2.2.2.2.1
  have e3 : M 35 3 = r := h.2.2.2.1.2.2.1
  have rows : ∀ (n : Nat) (o : Int) (N : zHp), 0 ≤ o → o + n = r + 1 → (∀ q i, q ≠ 37 → q ≠ 38 → q ≠ 39 → q ≠ 40 → N q i = M q i) → (∀ y, N 37 y = if y = x then 1 else M 37 y) → (∀ i, (65 * x ≤ i ∧ i < 65 * x + o → N 38 i = 0) ∧ (¬ (65 * x ≤ i ∧ i < 65 * x + o) → N 38 i = M 38 i ∧ N 39 i = M 39 i)) → (∀ j, (70 * (65 * x) ≤ j ∧ j < 70 * (65 * x + o) → N 40 j = 0) ∧ (¬ (70 * (65 * x) ≤ j ∧ j < 70 * (65 * x + o)) → N 40 j = M 40 j)) → zEnds 118 209 45 [(29, 35), (0, x), (0, o), (9, 0)] [] (t, L, N) Qr Qt := by
    intro n
    induction n with
    | zero =>
      intro o N o0 o1 a b c e
      refine j_209_45 ⟨fun _ => ⟨Or.inr rfl, hQ N ⟨a, b, fun y p y0 y1 p0 p1 => ⟨fun z => ⟨(c _).1 (by rw [z]; omega), fun k k0 k1 => (e _).1 (by rw [z]; omega)⟩, fun z => ⟨((c _).2 (by omega)).1, ((c _).2 (by omega)).2, fun k k0 k1 => (e _).2 (by omega)⟩⟩, fun j => ?_⟩⟩, fun u => absurd (by show N 35 3 < o; rw [a 35 3 (by decide) (by decide) (by decide) (by decide)]; omega) u⟩
      by_cases z : 70 * (65 * x) ≤ j ∧ j < 70 * (65 * x + o)
      · exact Or.inl ((e j).1 z)
      · exact Or.inr ((e j).2 z)
    | succ n ih =>
      intro o N o0 o1 a b c e
      refine j_209_45 ⟨fun u => absurd u (by show ¬ N 35 3 < o; rw [a 35 3 (by decide) (by decide) (by decide) (by decide)]; omega), fun _ => m_at (by omega) (by omega) ⟨⟨by show 0 ≤ 65 * x + o ∧ 65 * x + o < L 38; omega, Or.inl rfl⟩, m_at (by omega) (by omega) ⟨by show 0 ≤ 65 * x + o ∧ 65 * x + o < L 39; omega, m_at (by omega) (by omega) ?_⟩⟩⟩
      rw [z32_id (x := 70 * (65 * x + o)) (by omega) (by omega)]
      have inner : ∀ (m : Nat) (k : Int) (G : zHp), 70 * (65 * x + o) ≤ k → k + m = 70 * (65 * x + o) + 70 → (∀ q i, q ≠ 40 → G q i = zupd (zupd N 38 (65 * x + o) 0) 39 (65 * x + o) 0 q i) → (∀ j, (70 * (65 * x) ≤ j ∧ j < k → G 40 j = 0) ∧ (¬ (70 * (65 * x) ≤ j ∧ j < k) → G 40 j = M 40 j)) → zEnds 118 209 84 [(29, 35), (0, x), (0, o), (0, k)] [] (t, L, G) Qr Qt := by
        intro m
        induction m with
        | zero =>
          intro k G k0 k1 g1 g2
          refine j_209_84 (m_at (by omega) (by omega) ⟨fun _ => ?_, fun u => absurd (by rw [z32_id (x := 70 * (65 * x + o)) (by omega) (by omega), z32_id (x := 70 * (65 * x + o) + 70) (by omega) (by omega)]; omega) u⟩)
          rw [z32_id (x := o + 1) (by omega) (by omega)]
          have ek : k = 70 * (65 * x + (o + 1)) := by omega
          refine ih (o + 1) G (by omega) (by omega) (fun q i q1 q2 q3 q4 => by rw [g1 q i q4, zupd_ne q3, zupd_ne q2]; exact a q i q1 q2 q3 q4) (fun y => by rw [g1 37 y (by decide), zupd_ne (by decide), zupd_ne (by decide)]; exact b y) (fun i => ?_) (by rw [← ek]; exact g2)
          rw [g1 38 i (by decide), g1 39 i (by decide), zupd_ne (show (38 : Int) ≠ 39 by decide)]
          by_cases z : i = 65 * x + o
          · rw [z, zupd_at]
            exact ⟨fun _ => rfl, fun u => absurd (by omega) u⟩
          · rw [zupd_no (fun u => z u.2), zupd_no (fun u => z u.2), zupd_ne (by decide)]
            exact ⟨fun u => (c i).1 (by omega), fun u => (c i).2 (by omega)⟩
        | succ m ihm =>
          intro k G k0 k1 g1 g2
          refine j_209_84 (m_at (by omega) (by omega) ⟨fun u => absurd u (by rw [z32_id (x := 70 * (65 * x + o)) (by omega) (by omega), z32_id (x := 70 * (65 * x + o) + 70) (by omega) (by omega)]; omega), fun _ => ⟨by show 0 ≤ k ∧ k < L 40; omega, ?_⟩⟩)
          rw [z32_id (x := k + 1) (by omega) (by omega)]
          refine ihm (k + 1) _ (by omega) (by omega) (fun q i hq => by show zupd G 40 k (zi2b 0) q i = _; rw [zupd_ne hq]; exact g1 q i hq) (fun j => ?_)
          show (_ → zupd G 40 k (zi2b 0) 40 j = 0) ∧ (_ → zupd G 40 k (zi2b 0) 40 j = M 40 j)
          by_cases z : j = k
          · rw [z, zupd_at]
            exact ⟨fun _ => rfl, fun u => absurd (by omega) u⟩
          · rw [zupd_no (fun u => z u.2)]
            exact ⟨fun u => (g2 j).1 (by omega), fun u => (g2 j).2 (by omega)⟩
      refine inner 70 (70 * (65 * x + o)) _ (by omega) (by omega) (fun q i hq => rfl) (fun j => ?_)
      show (_ → zupd (zupd N 38 (65 * x + o) 0) 39 (65 * x + o) 0 40 j = 0) ∧ (_ → zupd (zupd N 38 (65 * x + o) 0) 39 (65 * x + o) 0 40 j = M 40 j)
      rw [zupd_ne (by decide), zupd_ne (by decide)]
      exact e j
  refine rows (r + 1).toNat 0 _ (by omega) (by omega) (fun q i q1 _ _ _ => zupd_ne q1) (fun y => ?_) (fun i => ⟨fun u => by omega, fun _ => ⟨zupd_ne (by decide), zupd_ne (by decide)⟩⟩) (fun j => ⟨fun u => by omega, fun _ => zupd_ne (by decide)⟩)
  by_cases z : y = x
  · rw [if_pos z, z, zupd_at]
  · rw [if_neg z, zupd_no (fun u => z u.2)]
theorem rK.blank {N : zHp} {x : Int} (h : rK d r H M) (hx : 0 ≤ x ∧ x < d) (hl : M 37 x = 0) (b : mBl d r M N x) : rK d r (zupd H 4 x 1) N := by
  obtain ⟨h1, h2, h3, h4⟩ := h
  obtain ⟨-, b2, b3, b4⟩ := b
  refine ⟨fun y y0 y1 => ?_, fun y o y0 y1 o0 o1 => ?_, fun j => by rw [zupd_ne (by decide)]; exact h3 j, fun j => by rcases b4 j with e | e <;> rw [e]; decide; exact h4 j⟩
  · rw [b2]
    by_cases c : y = x
    · rw [if_pos c, c, zupd_at]
    · rw [if_neg c, zupd_no (fun u => c u.2)]; exact h1 y y0 y1
  · obtain ⟨a1, a2, a3, a4⟩ := h2 y o y0 y1 o0 o1
    obtain ⟨c1, c2⟩ := b3 y o y0 y1 o0 o1
    have z9 : ∀ k, zB8 (zupd H 4 x 1) 9 k = zB8 H 9 k := fun k => by unfold zB8; rw [zupd_ne (by decide)]
    rw [b2, zupd_ne (by decide), zupd_ne (by decide), zupd_ne (by decide)]
    simp only [z9, zupd_ne (show (9 : Int) ≠ 4 by decide)]
    by_cases c : y = x
    · rw [if_pos c, (c1 c).1]
      rw [c, hl] at a1 a3
      rw [← c] at a1 a3
      refine ⟨⟨fun u => absurd (a1.mp u).1 (fun z => z rfl), fun u => absurd rfl u.2⟩, fun _ u => absurd rfl u, fun k k0 k1 => ?_, a4⟩
      rw [a3 k k0 k1, if_neg (fun u => u.1 rfl)]
      by_cases k70 : k < 70
      · rw [if_pos ⟨by decide, k70⟩, (c1 c).2 k k0 k70]; rfl
      · rw [if_neg (fun u => k70 u.2)]
    · obtain ⟨e1, e2, e3⟩ := c2 c
      rw [if_neg c, e1, e2]
      refine ⟨a1, a2, fun k k0 k1 => ?_, a4⟩
      rw [a3 k k0 k1]
      by_cases k70 : M 37 y ≠ 0 ∧ k < 70
      · rw [if_pos k70, if_pos k70, e3 k k0 k70.2]
      · rw [if_neg k70, if_neg k70]
theorem rAll.blank {N : zHp} {x : Int} (h : rAll d w r t L H M) (hx : 0 ≤ x ∧ x < d) (hl : M 37 x = 0) (b : mBl d r M N x) : rAll d w r t L (zupd H 4 x 1) N := by
  obtain ⟨h1, h2⟩ := h
  have g := h1.1.1
  have b1 := b.1
  refine ⟨h1.keep2 ⟨g.1.upd (by omega) (fun _ => Or.inr rfl), g.2.keep (fun i => zupd_ne (by decide))⟩ (fun q i hq => zupd_ne (by omega)) (fun q i hq => b1 q i (by omega) (by omega) (by omega) (by omega)), ?_⟩
  have f43 : N 43 = M 43 := funext (fun i => b1 43 i (by decide) (by decide) (by decide) (by decide))
  rcases h2 with ⟨C, ⟨⟨hB, hL, hP⟩, hK, hR, ⟨on, nc⟩, pl⟩, hv, ht, hj, o⟩ | ⟨C, O, ⟨hB, hf, hK, hc⟩, hR, ho, hv, hj, hd⟩
  · have on' : N 35 12 = 1 := by rw [b1 35 12 (by decide) (by decide) (by decide) (by decide)]; exact on
    refine Or.inl ⟨C, ⟨⟨hB.of (fun q i hq => zupd_ne (by omega)), hL.of (fun q i hq => zupd_ne (by omega)), hP⟩, hK.blank hx hl b, hR.of (fun i _ => zupd_ne (by decide)) (fun i _ => b1 35 i (by decide) (by decide) (by decide) (by decide)), ⟨on', by rw [b1 35 20 (by decide) (by decide) (by decide) (by decide)]; exact nc⟩, fun s s0 s1 => ?_⟩, by rw [f43]; exact hv, ht.keep (fun q i hq => zupd_ne (by omega)) (fun q i hq => b1 q i (by omega) (by omega) (by omega) (by omega)), by rw [f43]; exact hj, by rw [zupd_ne (by decide)]; exact o⟩
    rw [zupd_ne (by decide), pl s s0 s1]
    exact (mPs_of on on' (fun i => b1 41 i (by decide) (by decide) (by decide) (by decide))).symm
  · obtain ⟨hB1, hB2, hB3, hB4⟩ := hB
    refine Or.inr ⟨C, O, ⟨⟨hB1.of (fun q i hq => zupd_ne (by omega)), hB2.of (fun q i hq => zupd_ne (by omega)), hB3.imp (fun u => u.of (fun q i hq => zupd_ne (by omega))) (fun u => u.of (fun q i hq => zupd_ne (by omega))), hB4.of (fun q i hq => zupd_ne (by omega))⟩, fun s s0 s1 => ?_, hK.blank hx hl b, hc.of (fun q i hq => zupd_ne (by omega)) (fun i _ => b1 35 i (by decide) (by decide) (by decide) (by decide))⟩, hR.of (fun i _ => zupd_ne (by decide)) (fun i _ => b1 35 i (by decide) (by decide) (by decide) (by decide)), ⟨by rw [b1 35 12 (by decide) (by decide) (by decide) (by decide)]; exact ho.1, by rw [zupd_ne (by decide)]; exact ho.2⟩, by rw [f43]; exact hv, by rw [f43]; exact hj, fun u => ?_⟩
    · rw [zupd_ne (by decide), hf s s0 s1]
      exact (gFound_congr (fun i => zupd_ne (by decide)) (fun i => zupd_ne (by decide)) (fun i => zupd_ne (by decide))).symm
    · rw [b1 35 20 (by decide) (by decide) (by decide) (by decide)] at u
      rw [b1 35 19 (by decide) (by decide) (by decide) (by decide), vRev_of (fun q i hq => b1 q i (by omega) (by omega) (by omega) (by omega))]
      exact hd u
theorem rAll.k (h : rAll d w r t L H M) : rK d r H M := by
  rcases h.2 with ⟨C, h2⟩ | ⟨C, O, h2⟩
  · exact h2.1.2.1
  · exact h2.1.2.2.1
theorem q_replace (ht : 118 ≤ t) (hX : lR X H) (hz : zhR (t, L, H)) (h : rAll d w r t L H H) (x : Int) (hx32 : z32 x = x) : cOKb rP 279 159 [(20, 0), (0, x)] 209 [(29, 35), (0, x), (9, 0), (9, 0)] X t L H := by
  have hk := h.1.1.1.1.1
  have d16 := hk.2.1
  refine cOKb_rel (Q := fun M v H1 => (0 ≤ x ∧ x < d) ∧ ((H 4 x = 0 ∧ v = 1 ∧ H1 = zupd H 4 x 1) ∨ (H 4 x ≠ 0 ∧ v = 0 ∧ H1 = H))) (TT := fun c => c = 1 ∧ ¬ (0 ≤ x ∧ x < d)) ht hX hz h (za_c (za_i hx32 za_0)) (za_m (za_i hx32 (za_9 (za_9 za_0)))) rfl (fun M hM => ?_) (fun v H1 M hM q => ?_) (fun c q => ?_)
  · have g := hM.1.1.1
    have l4 : L 4 = d := g.1.2.1.1.2.1
    refine v_159 (k_disk g.1 ht (fun c => g_isLive g.1 c ⟨fun u => v_32 ⟨⟨by show 0 ≤ x ∧ x < L 4; omega, Or.inr rfl⟩, Or.inr rfl, _, rfl, fC.rfl'.upd (by decide), Or.inr rfl, c, Or.inl ⟨u, rfl, rfl⟩⟩, fun u => ⟨Or.inl rfl, H, rfl, fC.rfl', Or.inl rfl, c, Or.inr ⟨u, rfl, rfl⟩⟩⟩) (fun c => ⟨rfl, rfl, c⟩))
  · obtain ⟨c, q⟩ := q
    have ms := hM.1.1.2.1
    have e1 : M 35 1 = d := ms.2.2.2.1.1
    have l37 : L 37 = 16 := ms.2.1.2.1
    have hK := hM.k
    have e37 : H 4 x = M 37 x := hK.1 x c.1 c.2
    refine j_209 ⟨fun z => by omega, fun _ => ⟨fun _ => j_209_18 (m_f0 ⟨fun u => absurd rfl u, fun _ => ⟨by show 0 ≤ x ∧ x < L 37; omega, fun u => ?_, fun u => ?_⟩⟩), fun z => absurd (by show x < M 35 1; omega) z⟩⟩
    · have u : zupd M 35 0 0 37 x = 0 := u
      rw [zupd_ne (by decide)] at u
      rcases q with ⟨q1, q2, q3⟩ | ⟨q1, q2, q3⟩
      · have hM1 : rAll d w r t L H (zupd M 35 0 0) := hM.up
        refine ⟨⟨by show 0 ≤ x ∧ x < L 37; omega, Or.inr rfl⟩, m_replace (M := zupd M 35 0 0) hM1.1.1.2.1 c (fun N b => ⟨q2.symm, N, rfl, fun q i hq => by rw [b.1 q i (by omega) (by omega) (by omega) (by omega), zupd_ne (by omega)], by rw [b.1 35 0 (by decide) (by decide) (by decide) (by decide), zupd_at], ?_⟩)⟩
        rw [q3]
        exact hM1.blank c (by rw [zupd_ne (by decide)]; exact u) b
      · omega
    · have u : ¬ zupd M 35 0 0 37 x = 0 := u
      rw [zupd_ne (by decide)] at u
      rcases q with ⟨q1, q2, q3⟩ | ⟨q1, q2, q3⟩
      · omega
      · refine j_209_34 ⟨Or.inl rfl, q2.symm, _, rfl, fM.rfl'.upd (by decide), zupd_at, ?_⟩
        rw [q3]; exact hM.up
  · obtain ⟨e, c⟩ := q
    have e1 : H 35 1 = d := h.1.1.2.1.2.2.2.1.1
    refine ⟨1, by rw [e]; rfl, by decide, fun t' ht' => ?_⟩
    have q : zEnds 118 209 18 [(29, 35), (0, x), (9, 0), (9, 0)] [(0, 1), (29, 35)] (t', L, H) (fun _ S2 => S2 = (t', L, zupd H 35 0 1)) (fun _ _ => False) := j_209_18 (m_f1 ⟨fun _ => j_209_34 ⟨Or.inl rfl, rfl⟩, fun u => absurd (by decide) u⟩)
    exact j_209 ⟨fun _ => j_209_13 q, fun _ => ⟨fun z => absurd z (by show ¬ x < H 35 1; omega), fun _ => j_209_13 q⟩⟩
end DISKS2
